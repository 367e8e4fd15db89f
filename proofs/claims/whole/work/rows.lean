section
-- ===== PART A: goes FIRST, ahead of the names: the tables' words, and 'selects' of the private methods out of them =====
/-- a private method of a class that the tables say can be made, by its rows of tables_1 -/
def lw_okq (q : MethodName × Nat) : Prop := (q.1.cls ≠ "java/lang/invoke/MethodHandle" ∧ q.1.cls ≠ "java/lang/invoke/VarHandle") ∧ Cond.instantiable q.1.cls q.2 ∈ tables_1 ∧ Cond.privateMethod q.1 ∈ tables_1 ∧ Cond.instanceMethod q.1 ∈ tables_1
theorem lw_p0 : lw_okq (⟨"RoomsOfHours$House", "readItem", "([CII)I"⟩, 19) := ⟨⟨by decide +kernel, by decide +kernel⟩, List.mem_of_getElem? (i := 26) (by decide +kernel), List.mem_of_getElem? (i := 326) (by decide +kernel), List.mem_of_getElem? (i := 327) (by decide +kernel)⟩
theorem lw_p1 : lw_okq (⟨"RoomsOfHours$House", "addItem", "(I)Z"⟩, 19) := ⟨⟨by decide +kernel, by decide +kernel⟩, List.mem_of_getElem? (i := 26) (by decide +kernel), List.mem_of_getElem? (i := 339) (by decide +kernel), List.mem_of_getElem? (i := 340) (by decide +kernel)⟩
theorem lw_p2 : lw_okq (⟨"RoomsOfHours$House", "addRoom", "(III)Z"⟩, 19) := ⟨⟨by decide +kernel, by decide +kernel⟩, List.mem_of_getElem? (i := 26) (by decide +kernel), List.mem_of_getElem? (i := 343) (by decide +kernel), List.mem_of_getElem? (i := 344) (by decide +kernel)⟩
theorem lw_p3 : lw_okq (⟨"RoomsOfHours$House", "addDoor", "(IIII)Z"⟩, 19) := ⟨⟨by decide +kernel, by decide +kernel⟩, List.mem_of_getElem? (i := 26) (by decide +kernel), List.mem_of_getElem? (i := 347) (by decide +kernel), List.mem_of_getElem? (i := 348) (by decide +kernel)⟩
theorem lw_p4 : lw_okq (⟨"RoomsOfHours$House", "addPerson", "(II)Z"⟩, 19) := ⟨⟨by decide +kernel, by decide +kernel⟩, List.mem_of_getElem? (i := 26) (by decide +kernel), List.mem_of_getElem? (i := 351) (by decide +kernel), List.mem_of_getElem? (i := 352) (by decide +kernel)⟩
theorem lw_p5 : lw_okq (⟨"RoomsOfHours$House", "addThing", "(III)Z"⟩, 19) := ⟨⟨by decide +kernel, by decide +kernel⟩, List.mem_of_getElem? (i := 26) (by decide +kernel), List.mem_of_getElem? (i := 355) (by decide +kernel), List.mem_of_getElem? (i := 356) (by decide +kernel)⟩
theorem lw_p6 : lw_okq (⟨"RoomsOfHours$House", "setCrossing", "(I)Z"⟩, 19) := ⟨⟨by decide +kernel, by decide +kernel⟩, List.mem_of_getElem? (i := 26) (by decide +kernel), List.mem_of_getElem? (i := 359) (by decide +kernel), List.mem_of_getElem? (i := 360) (by decide +kernel)⟩
theorem lw_p7 : lw_okq (⟨"RoomsOfHours", "moveIn", "()V"⟩, 13) := ⟨⟨by decide +kernel, by decide +kernel⟩, List.mem_of_getElem? (i := 18) (by decide +kernel), List.mem_of_getElem? (i := 363) (by decide +kernel), List.mem_of_getElem? (i := 364) (by decide +kernel)⟩
theorem lw_p8 : lw_okq (⟨"RoomsOfHours$Course", "enter", "(II)V"⟩, 15) := ⟨⟨by decide +kernel, by decide +kernel⟩, List.mem_of_getElem? (i := 123) (by decide +kernel), List.mem_of_getElem? (i := 371) (by decide +kernel), List.mem_of_getElem? (i := 372) (by decide +kernel)⟩
theorem lw_p9 : lw_okq (⟨"RoomsOfHours", "isRoom", "(I)Z"⟩, 13) := ⟨⟨by decide +kernel, by decide +kernel⟩, List.mem_of_getElem? (i := 18) (by decide +kernel), List.mem_of_getElem? (i := 436) (by decide +kernel), List.mem_of_getElem? (i := 437) (by decide +kernel)⟩
theorem lw_p10 : lw_okq (⟨"RoomsOfHours", "isDoor", "(I)Z"⟩, 13) := ⟨⟨by decide +kernel, by decide +kernel⟩, List.mem_of_getElem? (i := 18) (by decide +kernel), List.mem_of_getElem? (i := 463) (by decide +kernel), List.mem_of_getElem? (i := 464) (by decide +kernel)⟩
theorem lw_p11 : lw_okq (⟨"RoomsOfHours", "isPerson", "(I)Z"⟩, 13) := ⟨⟨by decide +kernel, by decide +kernel⟩, List.mem_of_getElem? (i := 18) (by decide +kernel), List.mem_of_getElem? (i := 471) (by decide +kernel), List.mem_of_getElem? (i := 472) (by decide +kernel)⟩
theorem lw_p12 : lw_okq (⟨"RoomsOfHours", "isThing", "(I)Z"⟩, 13) := ⟨⟨by decide +kernel, by decide +kernel⟩, List.mem_of_getElem? (i := 18) (by decide +kernel), List.mem_of_getElem? (i := 491) (by decide +kernel), List.mem_of_getElem? (i := 492) (by decide +kernel)⟩
theorem lw_p13 : lw_okq (⟨"RoomsOfHours$Course", "partsOfTickIn", "(I)I"⟩, 15) := ⟨⟨by decide +kernel, by decide +kernel⟩, List.mem_of_getElem? (i := 123) (by decide +kernel), List.mem_of_getElem? (i := 503) (by decide +kernel), List.mem_of_getElem? (i := 504) (by decide +kernel)⟩
theorem lw_p14 : lw_okq (⟨"RoomsOfHours", "act", "(III)Z"⟩, 13) := ⟨⟨by decide +kernel, by decide +kernel⟩, List.mem_of_getElem? (i := 18) (by decide +kernel), List.mem_of_getElem? (i := 516) (by decide +kernel), List.mem_of_getElem? (i := 517) (by decide +kernel)⟩
theorem lw_p15 : lw_okq (⟨"RoomsOfHours$Course", "pass", "(II)V"⟩, 15) := ⟨⟨by decide +kernel, by decide +kernel⟩, List.mem_of_getElem? (i := 123) (by decide +kernel), List.mem_of_getElem? (i := 528) (by decide +kernel), List.mem_of_getElem? (i := 529) (by decide +kernel)⟩
def lw_privs_1 : List (MethodName × Nat) := [(⟨"RoomsOfHours$House", "readItem", "([CII)I"⟩, 19), (⟨"RoomsOfHours$House", "addItem", "(I)Z"⟩, 19), (⟨"RoomsOfHours$House", "addRoom", "(III)Z"⟩, 19), (⟨"RoomsOfHours$House", "addDoor", "(IIII)Z"⟩, 19), (⟨"RoomsOfHours$House", "addPerson", "(II)Z"⟩, 19), (⟨"RoomsOfHours$House", "addThing", "(III)Z"⟩, 19), (⟨"RoomsOfHours$House", "setCrossing", "(I)Z"⟩, 19), (⟨"RoomsOfHours", "moveIn", "()V"⟩, 13), (⟨"RoomsOfHours$Course", "enter", "(II)V"⟩, 15), (⟨"RoomsOfHours", "isRoom", "(I)Z"⟩, 13), (⟨"RoomsOfHours", "isDoor", "(I)Z"⟩, 13), (⟨"RoomsOfHours", "isPerson", "(I)Z"⟩, 13), (⟨"RoomsOfHours", "isThing", "(I)Z"⟩, 13), (⟨"RoomsOfHours$Course", "partsOfTickIn", "(I)I"⟩, 15), (⟨"RoomsOfHours", "act", "(III)Z"⟩, 13), (⟨"RoomsOfHours$Course", "pass", "(II)V"⟩, 15)]
theorem lw_r1 : ∀ q ∈ lw_privs_1, lw_okq q := List.forall_mem_cons.mpr ⟨lw_p0, List.forall_mem_cons.mpr ⟨lw_p1, List.forall_mem_cons.mpr ⟨lw_p2, List.forall_mem_cons.mpr ⟨lw_p3, List.forall_mem_cons.mpr ⟨lw_p4, List.forall_mem_cons.mpr ⟨lw_p5, List.forall_mem_cons.mpr ⟨lw_p6, List.forall_mem_cons.mpr ⟨lw_p7, List.forall_mem_cons.mpr ⟨lw_p8, List.forall_mem_cons.mpr ⟨lw_p9, List.forall_mem_cons.mpr ⟨lw_p10, List.forall_mem_cons.mpr ⟨lw_p11, List.forall_mem_cons.mpr ⟨lw_p12, List.forall_mem_cons.mpr ⟨lw_p13, List.forall_mem_cons.mpr ⟨lw_p14, List.forall_mem_cons.mpr ⟨lw_p15, fun _ h => absurd h List.not_mem_nil⟩⟩⟩⟩⟩⟩⟩⟩⟩⟩⟩⟩⟩⟩⟩⟩
theorem lw_p16 : lw_okq (⟨"RoomsOfHours$Course", "hourTicksOf", "(I)I"⟩, 15) := ⟨⟨by decide +kernel, by decide +kernel⟩, List.mem_of_getElem? (i := 123) (by decide +kernel), List.mem_of_getElem? (i := 532) (by decide +kernel), List.mem_of_getElem? (i := 533) (by decide +kernel)⟩
theorem lw_p17 : lw_okq (⟨"RoomsOfHours$Course", "cross", "(II)V"⟩, 15) := ⟨⟨by decide +kernel, by decide +kernel⟩, List.mem_of_getElem? (i := 123) (by decide +kernel), List.mem_of_getElem? (i := 544) (by decide +kernel), List.mem_of_getElem? (i := 545) (by decide +kernel)⟩
theorem lw_p18 : lw_okq (⟨"RoomsOfHours$Course", "pick", "(II)V"⟩, 15) := ⟨⟨by decide +kernel, by decide +kernel⟩, List.mem_of_getElem? (i := 123) (by decide +kernel), List.mem_of_getElem? (i := 560) (by decide +kernel), List.mem_of_getElem? (i := 561) (by decide +kernel)⟩
theorem lw_p19 : lw_okq (⟨"RoomsOfHours$Course", "drop", "(II)V"⟩, 15) := ⟨⟨by decide +kernel, by decide +kernel⟩, List.mem_of_getElem? (i := 123) (by decide +kernel), List.mem_of_getElem? (i := 569) (by decide +kernel), List.mem_of_getElem? (i := 570) (by decide +kernel)⟩
theorem lw_p20 : lw_okq (⟨"RoomsOfHours", "doAgain", "(LRoomsOfHours$Course;I)V"⟩, 13) := ⟨⟨by decide +kernel, by decide +kernel⟩, List.mem_of_getElem? (i := 18) (by decide +kernel), List.mem_of_getElem? (i := 598) (by decide +kernel), List.mem_of_getElem? (i := 599) (by decide +kernel)⟩
theorem lw_p21 : lw_okq (⟨"RoomsOfHours$Walk", "offer", "(LRoomsOfHours$House;II)V"⟩, 4) := ⟨⟨by decide +kernel, by decide +kernel⟩, List.mem_of_getElem? (i := 228) (by decide +kernel), List.mem_of_getElem? (i := 630) (by decide +kernel), List.mem_of_getElem? (i := 631) (by decide +kernel)⟩
theorem lw_p22 : lw_okq (⟨"RoomsOfHours$Walk", "spread", "(LRoomsOfHours$House;)V"⟩, 4) := ⟨⟨by decide +kernel, by decide +kernel⟩, List.mem_of_getElem? (i := 228) (by decide +kernel), List.mem_of_getElem? (i := 655) (by decide +kernel), List.mem_of_getElem? (i := 656) (by decide +kernel)⟩
theorem lw_p23 : lw_okq (⟨"RoomsOfHours$Tour", "stayOrNot", "(LRoomsOfHours$House;I)V"⟩, 4) := ⟨⟨by decide +kernel, by decide +kernel⟩, List.mem_of_getElem? (i := 249) (by decide +kernel), List.mem_of_getElem? (i := 669) (by decide +kernel), List.mem_of_getElem? (i := 670) (by decide +kernel)⟩
theorem lw_p24 : lw_okq (⟨"RoomsOfHours$Tour", "noteDone", "(LRoomsOfHours$House;II)V"⟩, 4) := ⟨⟨by decide +kernel, by decide +kernel⟩, List.mem_of_getElem? (i := 249) (by decide +kernel), List.mem_of_getElem? (i := 674) (by decide +kernel), List.mem_of_getElem? (i := 675) (by decide +kernel)⟩
theorem lw_p25 : lw_okq (⟨"RoomsOfHours$Tour", "step", "(LRoomsOfHours$House;I)V"⟩, 4) := ⟨⟨by decide +kernel, by decide +kernel⟩, List.mem_of_getElem? (i := 249) (by decide +kernel), List.mem_of_getElem? (i := 678) (by decide +kernel), List.mem_of_getElem? (i := 679) (by decide +kernel)⟩
theorem lw_p26 : lw_okq (⟨"RoomsOfHours$Tour", "leave", "(LRoomsOfHours$House;II)V"⟩, 4) := ⟨⟨by decide +kernel, by decide +kernel⟩, List.mem_of_getElem? (i := 249) (by decide +kernel), List.mem_of_getElem? (i := 682) (by decide +kernel), List.mem_of_getElem? (i := 683) (by decide +kernel)⟩
theorem lw_p27 : lw_okq (⟨"RoomsOfHours", "nextOwnHour", "(II)I"⟩, 13) := ⟨⟨by decide +kernel, by decide +kernel⟩, List.mem_of_getElem? (i := 18) (by decide +kernel), List.mem_of_getElem? (i := 696) (by decide +kernel), List.mem_of_getElem? (i := 697) (by decide +kernel)⟩
theorem lw_p28 : lw_okq (⟨"RoomsOfHours$Sights", "isStillSo", "(II)Z"⟩, 4) := ⟨⟨by decide +kernel, by decide +kernel⟩, List.mem_of_getElem? (i := 208) (by decide +kernel), List.mem_of_getElem? (i := 728) (by decide +kernel), List.mem_of_getElem? (i := 729) (by decide +kernel)⟩
theorem lw_p29 : lw_okq (⟨"RoomsOfHoursModel", "noHouse", "(I)V"⟩, 45) := ⟨⟨by decide +kernel, by decide +kernel⟩, List.mem_of_getElem? (i := 778) (by decide +kernel), List.mem_of_getElem? (i := 784) (by decide +kernel), List.mem_of_getElem? (i := 785) (by decide +kernel)⟩
theorem lw_p30 : lw_okq (⟨"RoomsOfHoursModel", "addRoom", "(IIII)V"⟩, 45) := ⟨⟨by decide +kernel, by decide +kernel⟩, List.mem_of_getElem? (i := 778) (by decide +kernel), List.mem_of_getElem? (i := 788) (by decide +kernel), List.mem_of_getElem? (i := 789) (by decide +kernel)⟩
theorem lw_p31 : lw_okq (⟨"RoomsOfHoursModel", "addDoor", "(IIIII)V"⟩, 45) := ⟨⟨by decide +kernel, by decide +kernel⟩, List.mem_of_getElem? (i := 778) (by decide +kernel), List.mem_of_getElem? (i := 792) (by decide +kernel), List.mem_of_getElem? (i := 793) (by decide +kernel)⟩
def lw_privs_2 : List (MethodName × Nat) := [(⟨"RoomsOfHours$Course", "hourTicksOf", "(I)I"⟩, 15), (⟨"RoomsOfHours$Course", "cross", "(II)V"⟩, 15), (⟨"RoomsOfHours$Course", "pick", "(II)V"⟩, 15), (⟨"RoomsOfHours$Course", "drop", "(II)V"⟩, 15), (⟨"RoomsOfHours", "doAgain", "(LRoomsOfHours$Course;I)V"⟩, 13), (⟨"RoomsOfHours$Walk", "offer", "(LRoomsOfHours$House;II)V"⟩, 4), (⟨"RoomsOfHours$Walk", "spread", "(LRoomsOfHours$House;)V"⟩, 4), (⟨"RoomsOfHours$Tour", "stayOrNot", "(LRoomsOfHours$House;I)V"⟩, 4), (⟨"RoomsOfHours$Tour", "noteDone", "(LRoomsOfHours$House;II)V"⟩, 4), (⟨"RoomsOfHours$Tour", "step", "(LRoomsOfHours$House;I)V"⟩, 4), (⟨"RoomsOfHours$Tour", "leave", "(LRoomsOfHours$House;II)V"⟩, 4), (⟨"RoomsOfHours", "nextOwnHour", "(II)I"⟩, 13), (⟨"RoomsOfHours$Sights", "isStillSo", "(II)Z"⟩, 4), (⟨"RoomsOfHoursModel", "noHouse", "(I)V"⟩, 45), (⟨"RoomsOfHoursModel", "addRoom", "(IIII)V"⟩, 45), (⟨"RoomsOfHoursModel", "addDoor", "(IIIII)V"⟩, 45)]
theorem lw_r2 : ∀ q ∈ lw_privs_2, lw_okq q := List.forall_mem_cons.mpr ⟨lw_p16, List.forall_mem_cons.mpr ⟨lw_p17, List.forall_mem_cons.mpr ⟨lw_p18, List.forall_mem_cons.mpr ⟨lw_p19, List.forall_mem_cons.mpr ⟨lw_p20, List.forall_mem_cons.mpr ⟨lw_p21, List.forall_mem_cons.mpr ⟨lw_p22, List.forall_mem_cons.mpr ⟨lw_p23, List.forall_mem_cons.mpr ⟨lw_p24, List.forall_mem_cons.mpr ⟨lw_p25, List.forall_mem_cons.mpr ⟨lw_p26, List.forall_mem_cons.mpr ⟨lw_p27, List.forall_mem_cons.mpr ⟨lw_p28, List.forall_mem_cons.mpr ⟨lw_p29, List.forall_mem_cons.mpr ⟨lw_p30, List.forall_mem_cons.mpr ⟨lw_p31, fun _ h => absurd h List.not_mem_nil⟩⟩⟩⟩⟩⟩⟩⟩⟩⟩⟩⟩⟩⟩⟩⟩
theorem lw_p32 : lw_okq (⟨"RoomsOfHoursModel", "goAll", "()V"⟩, 45) := ⟨⟨by decide +kernel, by decide +kernel⟩, List.mem_of_getElem? (i := 778) (by decide +kernel), List.mem_of_getElem? (i := 796) (by decide +kernel), List.mem_of_getElem? (i := 797) (by decide +kernel)⟩
theorem lw_p33 : lw_okq (⟨"RoomsOfHoursModel", "comeIn", "(II)V"⟩, 45) := ⟨⟨by decide +kernel, by decide +kernel⟩, List.mem_of_getElem? (i := 778) (by decide +kernel), List.mem_of_getElem? (i := 800) (by decide +kernel), List.mem_of_getElem? (i := 801) (by decide +kernel)⟩
theorem lw_p34 : lw_okq (⟨"RoomsOfHoursModel", "doAct", "(III)Z"⟩, 45) := ⟨⟨by decide +kernel, by decide +kernel⟩, List.mem_of_getElem? (i := 778) (by decide +kernel), List.mem_of_getElem? (i := 804) (by decide +kernel), List.mem_of_getElem? (i := 805) (by decide +kernel)⟩
theorem lw_p35 : lw_okq (⟨"RoomsOfHoursModel", "goBy", "(II)V"⟩, 45) := ⟨⟨by decide +kernel, by decide +kernel⟩, List.mem_of_getElem? (i := 778) (by decide +kernel), List.mem_of_getElem? (i := 808) (by decide +kernel), List.mem_of_getElem? (i := 809) (by decide +kernel)⟩
theorem lw_p36 : lw_okq (⟨"RoomsOfHoursModel", "hourOf", "(I)I"⟩, 45) := ⟨⟨by decide +kernel, by decide +kernel⟩, List.mem_of_getElem? (i := 778) (by decide +kernel), List.mem_of_getElem? (i := 812) (by decide +kernel), List.mem_of_getElem? (i := 813) (by decide +kernel)⟩
theorem lw_p37 : lw_okq (⟨"RoomsOfHoursModel", "goDoor", "(II)Z"⟩, 45) := ⟨⟨by decide +kernel, by decide +kernel⟩, List.mem_of_getElem? (i := 778) (by decide +kernel), List.mem_of_getElem? (i := 816) (by decide +kernel), List.mem_of_getElem? (i := 817) (by decide +kernel)⟩
theorem lw_p38 : lw_okq (⟨"RoomsOfHoursModel", "isBeside", "(II)Z"⟩, 45) := ⟨⟨by decide +kernel, by decide +kernel⟩, List.mem_of_getElem? (i := 778) (by decide +kernel), List.mem_of_getElem? (i := 820) (by decide +kernel), List.mem_of_getElem? (i := 821) (by decide +kernel)⟩
theorem lw_p39 : lw_okq (⟨"RoomsOfHoursModel", "leadFrom", "(II)I"⟩, 45) := ⟨⟨by decide +kernel, by decide +kernel⟩, List.mem_of_getElem? (i := 778) (by decide +kernel), List.mem_of_getElem? (i := 824) (by decide +kernel), List.mem_of_getElem? (i := 825) (by decide +kernel)⟩
theorem lw_p40 : lw_okq (⟨"RoomsOfHoursModel", "beyond", "(II)I"⟩, 45) := ⟨⟨by decide +kernel, by decide +kernel⟩, List.mem_of_getElem? (i := 778) (by decide +kernel), List.mem_of_getElem? (i := 828) (by decide +kernel), List.mem_of_getElem? (i := 829) (by decide +kernel)⟩
theorem lw_p41 : lw_okq (⟨"RoomsOfHoursModel", "takeUp", "(II)Z"⟩, 45) := ⟨⟨by decide +kernel, by decide +kernel⟩, List.mem_of_getElem? (i := 778) (by decide +kernel), List.mem_of_getElem? (i := 832) (by decide +kernel), List.mem_of_getElem? (i := 833) (by decide +kernel)⟩
theorem lw_p42 : lw_okq (⟨"RoomsOfHoursModel", "oldBy", "(II)I"⟩, 45) := ⟨⟨by decide +kernel, by decide +kernel⟩, List.mem_of_getElem? (i := 778) (by decide +kernel), List.mem_of_getElem? (i := 836) (by decide +kernel), List.mem_of_getElem? (i := 837) (by decide +kernel)⟩
theorem lw_p43 : lw_okq (⟨"RoomsOfHoursModel", "putDown", "(II)Z"⟩, 45) := ⟨⟨by decide +kernel, by decide +kernel⟩, List.mem_of_getElem? (i := 778) (by decide +kernel), List.mem_of_getElem? (i := 840) (by decide +kernel), List.mem_of_getElem? (i := 841) (by decide +kernel)⟩
theorem lw_p44 : lw_okq (⟨"RoomsOfHoursModel", "readAll", "()I"⟩, 45) := ⟨⟨by decide +kernel, by decide +kernel⟩, List.mem_of_getElem? (i := 778) (by decide +kernel), List.mem_of_getElem? (i := 997) (by decide +kernel), List.mem_of_getElem? (i := 998) (by decide +kernel)⟩
theorem lw_p45 : lw_okq (⟨"RoomsOfHoursModel", "item", "()Z"⟩, 45) := ⟨⟨by decide +kernel, by decide +kernel⟩, List.mem_of_getElem? (i := 778) (by decide +kernel), List.mem_of_getElem? (i := 1001) (by decide +kernel), List.mem_of_getElem? (i := 1002) (by decide +kernel)⟩
theorem lw_p46 : lw_okq (⟨"RoomsOfHoursModel", "letterAt", "(I)I"⟩, 45) := ⟨⟨by decide +kernel, by decide +kernel⟩, List.mem_of_getElem? (i := 778) (by decide +kernel), List.mem_of_getElem? (i := 1005) (by decide +kernel), List.mem_of_getElem? (i := 1006) (by decide +kernel)⟩
theorem lw_p47 : lw_okq (⟨"RoomsOfHoursModel", "figures", "(I)Z"⟩, 45) := ⟨⟨by decide +kernel, by decide +kernel⟩, List.mem_of_getElem? (i := 778) (by decide +kernel), List.mem_of_getElem? (i := 1009) (by decide +kernel), List.mem_of_getElem? (i := 1010) (by decide +kernel)⟩
def lw_privs_3 : List (MethodName × Nat) := [(⟨"RoomsOfHoursModel", "goAll", "()V"⟩, 45), (⟨"RoomsOfHoursModel", "comeIn", "(II)V"⟩, 45), (⟨"RoomsOfHoursModel", "doAct", "(III)Z"⟩, 45), (⟨"RoomsOfHoursModel", "goBy", "(II)V"⟩, 45), (⟨"RoomsOfHoursModel", "hourOf", "(I)I"⟩, 45), (⟨"RoomsOfHoursModel", "goDoor", "(II)Z"⟩, 45), (⟨"RoomsOfHoursModel", "isBeside", "(II)Z"⟩, 45), (⟨"RoomsOfHoursModel", "leadFrom", "(II)I"⟩, 45), (⟨"RoomsOfHoursModel", "beyond", "(II)I"⟩, 45), (⟨"RoomsOfHoursModel", "takeUp", "(II)Z"⟩, 45), (⟨"RoomsOfHoursModel", "oldBy", "(II)I"⟩, 45), (⟨"RoomsOfHoursModel", "putDown", "(II)Z"⟩, 45), (⟨"RoomsOfHoursModel", "readAll", "()I"⟩, 45), (⟨"RoomsOfHoursModel", "item", "()Z"⟩, 45), (⟨"RoomsOfHoursModel", "letterAt", "(I)I"⟩, 45), (⟨"RoomsOfHoursModel", "figures", "(I)Z"⟩, 45)]
theorem lw_r3 : ∀ q ∈ lw_privs_3, lw_okq q := List.forall_mem_cons.mpr ⟨lw_p32, List.forall_mem_cons.mpr ⟨lw_p33, List.forall_mem_cons.mpr ⟨lw_p34, List.forall_mem_cons.mpr ⟨lw_p35, List.forall_mem_cons.mpr ⟨lw_p36, List.forall_mem_cons.mpr ⟨lw_p37, List.forall_mem_cons.mpr ⟨lw_p38, List.forall_mem_cons.mpr ⟨lw_p39, List.forall_mem_cons.mpr ⟨lw_p40, List.forall_mem_cons.mpr ⟨lw_p41, List.forall_mem_cons.mpr ⟨lw_p42, List.forall_mem_cons.mpr ⟨lw_p43, List.forall_mem_cons.mpr ⟨lw_p44, List.forall_mem_cons.mpr ⟨lw_p45, List.forall_mem_cons.mpr ⟨lw_p46, List.forall_mem_cons.mpr ⟨lw_p47, fun _ h => absurd h List.not_mem_nil⟩⟩⟩⟩⟩⟩⟩⟩⟩⟩⟩⟩⟩⟩⟩⟩
theorem lw_p48 : lw_okq (⟨"RoomsOfHoursModel", "isRoom", "(I)Z"⟩, 45) := ⟨⟨by decide +kernel, by decide +kernel⟩, List.mem_of_getElem? (i := 778) (by decide +kernel), List.mem_of_getElem? (i := 1025) (by decide +kernel), List.mem_of_getElem? (i := 1026) (by decide +kernel)⟩
theorem lw_p49 : lw_okq (⟨"RoomsOfHoursModel", "isDoor", "(I)Z"⟩, 45) := ⟨⟨by decide +kernel, by decide +kernel⟩, List.mem_of_getElem? (i := 778) (by decide +kernel), List.mem_of_getElem? (i := 1046) (by decide +kernel), List.mem_of_getElem? (i := 1047) (by decide +kernel)⟩
theorem lw_p50 : lw_okq (⟨"RoomsOfHoursModel", "isPerson", "(I)Z"⟩, 45) := ⟨⟨by decide +kernel, by decide +kernel⟩, List.mem_of_getElem? (i := 778) (by decide +kernel), List.mem_of_getElem? (i := 1054) (by decide +kernel), List.mem_of_getElem? (i := 1055) (by decide +kernel)⟩
theorem lw_p51 : lw_okq (⟨"RoomsOfHoursModel", "thingsOf", "(I)I"⟩, 45) := ⟨⟨by decide +kernel, by decide +kernel⟩, List.mem_of_getElem? (i := 778) (by decide +kernel), List.mem_of_getElem? (i := 1059) (by decide +kernel), List.mem_of_getElem? (i := 1060) (by decide +kernel)⟩
theorem lw_p52 : lw_okq (⟨"RoomsOfHoursModel", "isThing", "(I)Z"⟩, 45) := ⟨⟨by decide +kernel, by decide +kernel⟩, List.mem_of_getElem? (i := 778) (by decide +kernel), List.mem_of_getElem? (i := 1067) (by decide +kernel), List.mem_of_getElem? (i := 1068) (by decide +kernel)⟩
theorem lw_p53 : lw_okq (⟨"RoomsOfHoursModel", "worthOf", "(II)I"⟩, 45) := ⟨⟨by decide +kernel, by decide +kernel⟩, List.mem_of_getElem? (i := 778) (by decide +kernel), List.mem_of_getElem? (i := 1076) (by decide +kernel), List.mem_of_getElem? (i := 1077) (by decide +kernel)⟩
theorem lw_p54 : lw_okq (⟨"RoomsOfHoursModel", "note", "(III)V"⟩, 45) := ⟨⟨by decide +kernel, by decide +kernel⟩, List.mem_of_getElem? (i := 778) (by decide +kernel), List.mem_of_getElem? (i := 1085) (by decide +kernel), List.mem_of_getElem? (i := 1086) (by decide +kernel)⟩
theorem lw_p55 : lw_okq (⟨"RoomsOfHoursModel", "layLow", "(II)V"⟩, 45) := ⟨⟨by decide +kernel, by decide +kernel⟩, List.mem_of_getElem? (i := 778) (by decide +kernel), List.mem_of_getElem? (i := 1118) (by decide +kernel), List.mem_of_getElem? (i := 1119) (by decide +kernel)⟩
theorem lw_p56 : lw_okq (⟨"RoomsOfHoursModel", "costOf", "(II)I"⟩, 45) := ⟨⟨by decide +kernel, by decide +kernel⟩, List.mem_of_getElem? (i := 778) (by decide +kernel), List.mem_of_getElem? (i := 1122) (by decide +kernel), List.mem_of_getElem? (i := 1123) (by decide +kernel)⟩
theorem lw_p57 : lw_okq (⟨"RoomsOfHoursModel", "layStays", "(I)V"⟩, 45) := ⟨⟨by decide +kernel, by decide +kernel⟩, List.mem_of_getElem? (i := 778) (by decide +kernel), List.mem_of_getElem? (i := 1138) (by decide +kernel), List.mem_of_getElem? (i := 1139) (by decide +kernel)⟩
theorem lw_p58 : lw_okq (⟨"RoomsOfHoursModel", "pacesOf", "(I)I"⟩, 45) := ⟨⟨by decide +kernel, by decide +kernel⟩, List.mem_of_getElem? (i := 778) (by decide +kernel), List.mem_of_getElem? (i := 1172) (by decide +kernel), List.mem_of_getElem? (i := 1173) (by decide +kernel)⟩
theorem lw_p59 : lw_okq (⟨"RoomsOfHoursModel", "copy", "(II)V"⟩, 45) := ⟨⟨by decide +kernel, by decide +kernel⟩, List.mem_of_getElem? (i := 778) (by decide +kernel), List.mem_of_getElem? (i := 1198) (by decide +kernel), List.mem_of_getElem? (i := 1199) (by decide +kernel)⟩
def lw_privs_4 : List (MethodName × Nat) := [(⟨"RoomsOfHoursModel", "isRoom", "(I)Z"⟩, 45), (⟨"RoomsOfHoursModel", "isDoor", "(I)Z"⟩, 45), (⟨"RoomsOfHoursModel", "isPerson", "(I)Z"⟩, 45), (⟨"RoomsOfHoursModel", "thingsOf", "(I)I"⟩, 45), (⟨"RoomsOfHoursModel", "isThing", "(I)Z"⟩, 45), (⟨"RoomsOfHoursModel", "worthOf", "(II)I"⟩, 45), (⟨"RoomsOfHoursModel", "note", "(III)V"⟩, 45), (⟨"RoomsOfHoursModel", "layLow", "(II)V"⟩, 45), (⟨"RoomsOfHoursModel", "costOf", "(II)I"⟩, 45), (⟨"RoomsOfHoursModel", "layStays", "(I)V"⟩, 45), (⟨"RoomsOfHoursModel", "pacesOf", "(I)I"⟩, 45), (⟨"RoomsOfHoursModel", "copy", "(II)V"⟩, 45)]
theorem lw_r4 : ∀ q ∈ lw_privs_4, lw_okq q := List.forall_mem_cons.mpr ⟨lw_p48, List.forall_mem_cons.mpr ⟨lw_p49, List.forall_mem_cons.mpr ⟨lw_p50, List.forall_mem_cons.mpr ⟨lw_p51, List.forall_mem_cons.mpr ⟨lw_p52, List.forall_mem_cons.mpr ⟨lw_p53, List.forall_mem_cons.mpr ⟨lw_p54, List.forall_mem_cons.mpr ⟨lw_p55, List.forall_mem_cons.mpr ⟨lw_p56, List.forall_mem_cons.mpr ⟨lw_p57, List.forall_mem_cons.mpr ⟨lw_p58, List.forall_mem_cons.mpr ⟨lw_p59, fun _ h => absurd h List.not_mem_nil⟩⟩⟩⟩⟩⟩⟩⟩⟩⟩⟩⟩
def lw_privs : List (MethodName × Nat) := lw_privs_1 ++ (lw_privs_2 ++ (lw_privs_3 ++ (lw_privs_4)))
def lw_tbl : List Cond := k2_sels lw_privs ++ tables_1
theorem lw_privs_ok : ∀ q ∈ lw_privs, lw_okq q := by
  show ∀ q ∈ lw_privs_1 ++ (lw_privs_2 ++ (lw_privs_3 ++ (lw_privs_4))), lw_okq q
  exact List.forall_mem_append.mpr ⟨lw_r1, List.forall_mem_append.mpr ⟨lw_r2, List.forall_mem_append.mpr ⟨lw_r3, lw_r4⟩⟩⟩
end
section
/-! THE ABSTRACT MACHINE: heap by cell and place; values int, ref (tag, cell), long; a row: pc, length, instruction, operands, constant -/
abbrev am_H : Type := Nat → Nat → Int32
abbrev am_V : Type := Int32 ⊕ ((Nat × Nat) ⊕ Int64)
abbrev am_L : Type := List (Option am_V)
abbrev am_W : Type := Nat × Nat × Instr × List Nat × Int32
abbrev am_Z : Type := Option (am_H × Option Int32)
abbrev vi (x : Int32) : am_V := Sum.inl x
abbrev vr (t a : Nat) : am_V := Sum.inr (Sum.inl (t, a))
abbrev vl (x : Int64) : am_V := Sum.inr (Sum.inr x)
def am_up (h : am_H) (c i : Nat) (x : Int32) : am_H := va_up h c (upd (h c) i x)
def am_ix : am_L → Nat → Option am_V
  | [], _ => none
  | a :: _, 0 => a
  | _ :: l, n + 1 => am_ix l n
def am_st : am_L → Nat → Option am_V → am_L
  | [], _, _ => []
  | _ :: l, 0, v => v :: l
  | a :: l, n + 1, v => a :: am_st l n v
def am_drp : Nat → List am_W → List am_W
  | 0, l => l
  | _ + 1, [] => []
  | n + 1, _ :: l => am_drp n l
def am_b (n : Nat) (i : Int32) (k : Nat → am_Z) : am_Z := if i < 0 ∨ n ≤ i.toNatClampNeg then none else k i.toNatClampNeg
def am_r1 (r : am_Z) (k : am_H → Int32 → am_Z) : am_Z := match r with
  | some (h, some x) => k h x
  | _ => none
def am_r0 (r : am_Z) (k : am_H → am_Z) : am_Z := match r with
  | some (h, none) => k h
  | _ => none
def am_ldi (l : am_L) (i : Nat) (k : Int32 → am_Z) : am_Z := match am_ix l i with
  | some (Sum.inl x) => k x
  | _ => none
def am_lda (l : am_L) (i : Nat) (k : Nat → Nat → am_Z) : am_Z := match am_ix l i with
  | some (Sum.inr (Sum.inl (t, a))) => k t a
  | _ => none
def am_ldl (l : am_L) (i : Nat) (k : Int64 → am_Z) : am_Z := match am_ix l i with
  | some (Sum.inr (Sum.inr x)) => k x
  | _ => none
/-- no long stands at the place before -/
def am_pre (l : am_L) : Nat → am_Z → am_Z
  | 0, k => k
  | i + 1, k => match am_ix l i with
    | some (Sum.inr (Sum.inr _)) => none
    | _ => k
def am_pi (st : List am_V) (k : Int32 → List am_V → am_Z) : am_Z := match st with
  | Sum.inl x :: r => k x r
  | _ => none
def am_pa (st : List am_V) (k : Nat → Nat → List am_V → am_Z) : am_Z := match st with
  | Sum.inr (Sum.inl (t, a)) :: r => k t a r
  | _ => none
def am_pl (st : List am_V) (k : Int64 → List am_V → am_Z) : am_Z := match st with
  | Sum.inr (Sum.inr x) :: r => k x r
  | _ => none
def am_2 (st : List am_V) (k : Int32 → Int32 → List am_V → am_Z) : am_Z := am_pi st fun b r => am_pi r fun a r => k a b r
def am_2l (st : List am_V) (k : Int64 → Int64 → List am_V → am_Z) : am_Z := am_pl st fun b r => am_pl r fun a r => k a b r
def am_cat : am_V → Nat
  | Sum.inr (Sum.inr _) => 2
  | _ => 1
def am_cats : List am_V → Nat
  | [] => 0
  | v :: l => am_cat v + am_cats l
/-- the n values on top, the lowest first, and the rest -/
def am_tk : Nat → List am_V → List am_V → (List am_V → List am_V → am_Z) → am_Z
  | 0, st, as, k => k as st
  | n + 1, v :: st, as, k => am_tk n st (v :: as) k
  | _ + 1, [], _, _ => none
/-- none of the values is the script -/
def am_n8 : List am_V → Bool
  | [] => true
  | Sum.inr (Sum.inl (t, _)) :: l => if t = 8 then false else am_n8 l
  | _ :: l => am_n8 l
/-- the receiver is an object of that kind -/
def am_rcv (v : Bool) (ci : Nat) (as : List am_V) (k : am_Z) : am_Z := match v, as with
  | false, _ => k
  | true, Sum.inr (Sum.inl (t, _)) :: _ => if t = ci then k else none
  | true, _ => none
def am_sw (x : Int32) (d : Nat) (k : Nat → am_Z) : List Nat → am_Z
  | v :: t :: l => if x = nI v then k t else am_sw x d k l
  | _ => k d
def am_rem (a b : Int32) : Int32 := a - a / b * b
def am_reml (a b : Int64) : Int64 := a - a / b * b
def am_ush (x y : Int32) : Int32 := (x.toUInt32 >>> (y.toUInt32 &&& Int32.toUInt32 31)).toInt32
def am_i2c (x : Int32) : Int32 := (x.toUInt32 % 65536).toInt32
/-- does a jump with this condition go on the branch -/
def am_cnd (c : Jvm.ClassFile.Cond) (a b : Int32) (kt kf : am_Z) : am_Z := match c with
  | .eq => if a = b then kt else kf
  | .ne => if a = b then kf else kt
  | .lt => if a < b then kt else kf
  | .ge => if a < b then kf else kt
  | .gt => if b < a then kt else kf
  | .le => if b < a then kf else kt
section AM
variable (L : Nat) (xs : Nat → Int32) (tb : List am_W) (G : Nat → List am_V → am_H → am_Z) (rc : Nat → am_L → am_H → am_Z) (nx : List am_W → am_L → List am_V → am_H → am_Z)
def am_get (aux : List Nat) (rest : List am_W) (ls : am_L) (st : List am_V) (h : am_H) : am_Z := match aux with
  | kd :: ci :: sl :: tg :: off :: _ => am_pa st fun t o r => if t = ci then (match kd with
    | 0 => nx rest ls (vi (h o sl) :: r) h
    | 1 => nx rest ls (vr tg (o + off) :: r) h
    | _ => nx rest ls (vr tg (h o sl).toNatClampNeg :: r) h) else none
  | _ => none
def am_put (aux : List Nat) (rest : List am_W) (ls : am_L) (st : List am_V) (h : am_H) : am_Z := match aux with
  | kd :: ci :: sl :: tg :: _ => (match kd with
    | 0 => am_pi st fun x r => am_pa r fun t o r => if t = ci then nx rest ls r (am_up h o sl x) else none
    | 2 => am_pa st fun t' a r => am_pa r fun t o r => if t = ci then (if t' = tg then nx rest ls r (am_up h o sl (nI a)) else none) else none
    | _ => none)
  | _ => none
def am_cpy (rest : List am_W) (ls : am_L) (st : List am_V) (h : am_H) : am_Z :=
  am_pi st fun n r => am_pi r fun dp r => am_pa r fun t1 a1 r => am_pi r fun sp r => am_pa r fun t0 a0 r =>
    if t0 < 100 then none else if t1 < 100 then none else if 8 < am_cats r then none else
    if sp < 0 ∨ dp < 0 ∨ n < 0 ∨ t0 - 100 < sp.toNatClampNeg + n.toNatClampNeg ∨ t1 - 100 < dp.toNatClampNeg + n.toNatClampNeg then none else
    nx rest ls r (va_up h a1 (va_cpy (h a0) (h a1) sp.toNatClampNeg dp.toNatClampNeg n.toNatClampNeg))
def am_inv (v : Bool) (aux : List Nat) (rest : List am_W) (ls : am_L) (st : List am_V) (h : am_H) : am_Z := match aux with
  | z :: n :: rt :: ci :: _ => am_tk n st [] fun as r => if 8 < am_cats r then none else if am_n8 as = false then none else am_rcv v ci as (match rt with
    | 0 => am_r0 (G z as h) fun h => nx rest ls r h
    | _ => am_r1 (G z as h) fun h x => nx rest ls (vi x :: r) h)
  | _ => none
def am_ex (ins : Instr) (aux : List Nat) (q : Int32) (rest : List am_W) (ls : am_L) (st : List am_V) (h : am_H) : am_Z := match ins with
  | .nop => (match st, aux with
    | [], i :: _ => rc i ls h
    | _, _ => none)
  | .aload_n n => am_lda ls n.val fun t a => nx rest ls (vr t a :: st) h
  | .aload n => am_lda ls n fun t a => nx rest ls (vr t a :: st) h
  | .iload_n n => am_ldi ls n.val fun x => nx rest ls (vi x :: st) h
  | .iload n => am_ldi ls n fun x => nx rest ls (vi x :: st) h
  | .lload_n n => am_ldl ls n.val fun x => nx rest ls (vl x :: st) h
  | .lload n => am_ldl ls n fun x => nx rest ls (vl x :: st) h
  | .getfield _ => am_get nx aux rest ls st h
  | .putfield _ => am_put nx aux rest ls st h
  | .iconst _ => nx rest ls (vi q :: st) h
  | .bipush _ => nx rest ls (vi q :: st) h
  | .sipush _ => nx rest ls (vi q :: st) h
  | .ldc _ => nx rest ls (vi q :: st) h
  | .ldc_w _ => nx rest ls (vi q :: st) h
  | .lconst _ => nx rest ls (vl q.toInt64 :: st) h
  | .ldc2_w _ => nx rest ls (vl q.toInt64 :: st) h
  | .iaload => am_pi st fun i r => am_pa r fun t a r => if t = 8 then am_b L i (fun j => nx rest ls (vi (xs j) :: r) h) else if t < 100 then none else am_b (t - 100) i (fun j => nx rest ls (vi (h a j) :: r) h)
  | .iastore => am_pi st fun x r => am_pi r fun i r => am_pa r fun t a r => if t < 100 then none else am_b (t - 100) i (fun j => nx rest ls r (am_up h a j x))
  | .caload => am_pi st fun i r => am_pa r fun t a r => if t = 9 then am_b 200 i (fun j => nx rest ls (vi (h a j) :: r) h) else none
  | .castore => am_pi st fun x r => am_pi r fun i r => am_pa r fun t a r => if t = 9 then am_b 200 i (fun j => nx rest ls r (am_up h a j (vp_nar .char x))) else none
  | .arraylength => am_pa st fun t _ r => if t = 8 then nx rest ls (vi (nI L) :: r) h else if t < 100 then none else nx rest ls (vi (nI (t - 100)) :: r) h
  | .istore_n n => am_pi st fun x r => am_pre ls n.val (nx rest (am_st ls n.val (some (vi x))) r h)
  | .istore n => am_pi st fun x r => am_pre ls n (nx rest (am_st ls n (some (vi x))) r h)
  | .astore_n n => am_pa st fun t a r => am_pre ls n.val (nx rest (am_st ls n.val (some (vr t a))) r h)
  | .lstore_n n => am_pl st fun x r => am_pre ls n.val (nx rest (am_st (am_st ls n.val (some (vl x))) (n.val + 1) none) r h)
  | .lstore n => am_pl st fun x r => am_pre ls n (nx rest (am_st (am_st ls n (some (vl x))) (n + 1) none) r h)
  | .iinc n _ => am_ldi ls n fun x => am_pre ls n (nx rest (am_st ls n (some (vi (x + q)))) st h)
  | .iadd => am_2 st fun a b r => nx rest ls (vi (a + b) :: r) h
  | .isub => am_2 st fun a b r => nx rest ls (vi (a - b) :: r) h
  | .imul => am_2 st fun a b r => nx rest ls (vi (a * b) :: r) h
  | .iand => am_2 st fun a b r => nx rest ls (vi (a &&& b) :: r) h
  | .ior => am_2 st fun a b r => nx rest ls (vi (a ||| b) :: r) h
  | .ixor => am_2 st fun a b r => nx rest ls (vi (a ^^^ b) :: r) h
  | .ishl => am_2 st fun a b r => nx rest ls (vi (a <<< (b &&& 31)) :: r) h
  | .ishr => am_2 st fun a b r => nx rest ls (vi (a >>> (b &&& 31)) :: r) h
  | .iushr => am_2 st fun a b r => nx rest ls (vi (am_ush a b) :: r) h
  | .idiv => am_2 st fun a b r => if b = 0 then none else nx rest ls (vi (a / b) :: r) h
  | .irem => am_2 st fun a b r => if b = 0 then none else nx rest ls (vi (am_rem a b) :: r) h
  | .ineg => am_pi st fun a r => nx rest ls (vi (-a) :: r) h
  | .i2c => am_pi st fun a r => nx rest ls (vi (am_i2c a) :: r) h
  | .i2l => am_pi st fun a r => nx rest ls (vl a.toInt64 :: r) h
  | .l2i => am_pl st fun a r => nx rest ls (vi a.toInt32 :: r) h
  | .ladd => am_2l st fun a b r => nx rest ls (vl (a + b) :: r) h
  | .lmul => am_2l st fun a b r => nx rest ls (vl (a * b) :: r) h
  | .lrem => am_2l st fun a b r => if b = 0 then none else nx rest ls (vl (am_reml a b) :: r) h
  | .lcmp => am_2l st fun a b r => nx rest ls (vi (lg_cmp a b) :: r) h
  | .dup => (match st with
    | v :: r => if am_cat v = 1 then nx rest ls (v :: v :: r) h else none
    | _ => none)
  | .dup2 => (match st with
    | v :: w :: r => if am_cat v = 1 then (if am_cat w = 1 then nx rest ls (v :: w :: v :: w :: r) h else none) else none
    | _ => none)
  | .pop => (match st with
    | v :: r => if am_cat v = 1 then nx rest ls r h else none
    | _ => none)
  | .goto _ => (match aux with
    | t :: _ => nx (am_drp t tb) ls st h
    | _ => none)
  | .if_icmp c _ => (match aux with
    | t :: _ => am_2 st fun a b r => am_cnd c a b (nx (am_drp t tb) ls r h) (nx rest ls r h)
    | _ => none)
  | .ifCond c _ => (match aux with
    | t :: _ => am_pi st fun a r => am_cnd c a 0 (nx (am_drp t tb) ls r h) (nx rest ls r h)
    | _ => none)
  | .tableswitch _ _ _ _ => (match aux with
    | d :: l => am_pi st fun x r => am_sw x d (fun t => nx (am_drp t tb) ls r h) l
    | _ => none)
  | .lookupswitch _ _ => (match aux with
    | d :: l => am_pi st fun x r => am_sw x d (fun t => nx (am_drp t tb) ls r h) l
    | _ => none)
  | .invokevirtual _ => am_inv G nx true aux rest ls st h
  | .invokestatic _ => (match aux with
    | 999 :: _ => am_cpy nx rest ls st h
    | _ => am_inv G nx false aux rest ls st h)
  | .ireturn => (match st, aux with
    | [Sum.inl v], 1 :: _ => if v &&& 1 = v then some (h, some v) else none
    | [Sum.inl v], 0 :: _ => some (h, some v)
    | _, _ => none)
  | .return_ => (match st with
    | [] => some (h, none)
    | _ => none)
  | _ => none
end AM
def am_seg (L : Nat) (xs : Nat → Int32) (tb : List am_W) (G : Nat → List am_V → am_H → am_Z) (rc : Nat → am_L → am_H → am_Z) : Nat → List am_W → am_L → List am_V → am_H → am_Z
  | 0, _, _, _, _ => none
  | _ + 1, [], _, _, _ => none
  | k + 1, (_, _, ins, aux, q) :: rest, ls, st, h => am_ex L xs tb G rc (am_seg L xs tb G rc k) ins aux q rest ls st h
def am_run (L : Nat) (xs : Nat → Int32) (tb : List am_W) (G : Nat → List am_V → am_H → am_Z) : Nat → Nat → am_L → am_H → am_Z
  | 0, _, _, _ => none
  | n + 1, i, ls, h => am_seg L xs tb G (am_run L xs tb G n) 1000 (am_drp i tb) ls [] h
def am_ent : List am_V → Nat → am_L
  | [], n => List.replicate n none
  | v :: l, n => match am_cat v with
    | 2 => some v :: none :: am_ent l (n - 2)
    | _ => some v :: am_ent l (n - 1)
def am_G (mt : Nat → List am_W × Nat) : Nat → Nat → List am_V → am_H → am_Z
  | 0, _, _, _ => none
  | D + 1, z, as, h => if (mt z).2 < am_cats as then none else am_run 0 (fun _ => 0) (mt z).1 (am_G mt D) 1000000 0 (am_ent as (mt z).2) h
end
section
/-- the words that a call may carry on -/
def am_tbl : List Cond := lw_tbl.filter goodWord
theorem am_ins {ws : List Cond} (ps : List Nat) (h : ps.map (fun i => lw_tbl[i]?) = ws.map some) (hg : ws.all goodWord = true) : ∀ w ∈ ws, w ∈ am_tbl := by
  intro w hw
  refine List.mem_filter.mpr ⟨?_, List.all_eq_true.mp hg w hw⟩
  have h1 : some w ∈ ws.map some := List.mem_map.mpr ⟨w, hw, rfl⟩
  rw [← h] at h1
  obtain ⟨i, -, hi⟩ := List.mem_map.mp h1
  exact List.mem_of_getElem? hi
/-! LAYOUT: the classes, their fields, the cells; by program -/
def am_R0 : String := "RoomsOfHours$Acts"
def am_T0 : u_T := fun k => match k with
  | 0 => ("RoomsOfHours$Acts", "kind", "[I", true)
  | 1 => ("RoomsOfHours$Acts", "who", "[I", true)
  | 2 => ("RoomsOfHours$Acts", "with", "[I", true)
  | _ => ("RoomsOfHours$Acts", "count", "I", false)
def am_R1 : String := "RoomsOfHours$Course"
def am_T1 : u_T := fun k => match k with
  | 0 => ("RoomsOfHours$Course", "house", "LRoomsOfHours$House;", false)
  | 1 => ("RoomsOfHours$Course", "mendedRoom", "I", false)
  | 2 => ("RoomsOfHours$Course", "in", "[I", true)
  | 3 => ("RoomsOfHours$Course", "tick", "[I", true)
  | 4 => ("RoomsOfHours$Course", "age", "[I", true)
  | 5 => ("RoomsOfHours$Course", "latest", "[I", true)
  | 6 => ("RoomsOfHours$Course", "lies", "[I", true)
  | 7 => ("RoomsOfHours$Course", "holder", "[I", true)
  | 8 => ("RoomsOfHours$Course", "since", "[I", true)
  | 9 => ("RoomsOfHours$Course", "worn", "[I", true)
  | 10 => ("RoomsOfHours$Course", "visitor", "[I", true)
  | 11 => ("RoomsOfHours$Course", "visited", "[I", true)
  | 12 => ("RoomsOfHours$Course", "came", "[I", true)
  | 13 => ("RoomsOfHours$Course", "left", "[I", true)
  | _ => ("RoomsOfHours$Course", "visits", "I", false)
def am_R2 : String := "RoomsOfHours$House"
def am_T2 : u_T := fun k => match k with
  | 0 => ("RoomsOfHours$House", "pace", "[I", true)
  | 1 => ("RoomsOfHours$House", "paceBy", "[I", true)
  | 2 => ("RoomsOfHours$House", "shows", "[I", true)
  | 3 => ("RoomsOfHours$House", "hourTicks", "[I", true)
  | 4 => ("RoomsOfHours$House", "partsOfTick", "[I", true)
  | 5 => ("RoomsOfHours$House", "from", "[I", true)
  | 6 => ("RoomsOfHours$House", "to", "[I", true)
  | 7 => ("RoomsOfHours$House", "leads", "[I", true)
  | 8 => ("RoomsOfHours$House", "personIn", "[I", true)
  | 9 => ("RoomsOfHours$House", "personAge", "[I", true)
  | 10 => ("RoomsOfHours$House", "thingIn", "[I", true)
  | 11 => ("RoomsOfHours$House", "kind", "[I", true)
  | 12 => ("RoomsOfHours$House", "size", "[I", true)
  | 13 => ("RoomsOfHours$House", "numbers", "[I", true)
  | 14 => ("RoomsOfHours$House", "rooms", "I", false)
  | 15 => ("RoomsOfHours$House", "doors", "I", false)
  | 16 => ("RoomsOfHours$House", "persons", "I", false)
  | 17 => ("RoomsOfHours$House", "things", "I", false)
  | _ => ("RoomsOfHours$House", "crossing", "I", false)
def am_R3 : String := "RoomsOfHours$Sights"
def am_T3 : u_T := fun k => match k with
  | 0 => ("RoomsOfHours$Sights", "room", "[I", true)
  | 1 => ("RoomsOfHours$Sights", "hours", "[I", true)
  | 2 => ("RoomsOfHours$Sights", "shown", "[I", true)
  | _ => ("RoomsOfHours$Sights", "count", "I", false)
def am_R4 : String := "RoomsOfHours$Tour"
def am_T4 : u_T := fun k => match k with
  | 0 => ("RoomsOfHours$Tour", "ticks", "[I", false)
  | 1 => ("RoomsOfHours$Tour", "nextTicks", "[I", false)
  | 2 => ("RoomsOfHours$Tour", "soonest", "I", false)
  | _ => ("RoomsOfHours$Tour", "fewest", "I", false)
def am_R5 : String := "RoomsOfHours$Walk"
def am_T5 : u_T := fun k => match k with
  | 0 => ("RoomsOfHours$Walk", "ticks", "[I", true)
  | 1 => ("RoomsOfHours$Walk", "nextTicks", "[I", true)
  | 2 => ("RoomsOfHours$Walk", "firsts", "[I", true)
  | _ => ("RoomsOfHours$Walk", "nextFirsts", "[I", true)
def am_R6 : String := "RoomsOfHours"
def am_T6 : u_T := fun k => match k with
  | 0 => ("RoomsOfHours", "text", "[C", true)
  | 1 => ("RoomsOfHours", "letters", "I", false)
  | 2 => ("RoomsOfHours", "house", "LRoomsOfHours$House;", false)
  | 3 => ("RoomsOfHours", "readHouse", "LRoomsOfHours$House;", false)
  | 4 => ("RoomsOfHours", "course", "LRoomsOfHours$Course;", true)
  | 5 => ("RoomsOfHours", "otherCourse", "LRoomsOfHours$Course;", true)
  | 6 => ("RoomsOfHours", "acts", "LRoomsOfHours$Acts;", true)
  | 7 => ("RoomsOfHours", "keptFirst", "LRoomsOfHours$Acts;", true)
  | 8 => ("RoomsOfHours", "keptLast", "LRoomsOfHours$Acts;", true)
  | 9 => ("RoomsOfHours", "kept", "I", false)
  | 10 => ("RoomsOfHours", "sights", "LRoomsOfHours$Sights;", true)
  | 11 => ("RoomsOfHours", "walk", "LRoomsOfHours$Walk;", true)
  | _ => ("RoomsOfHours", "tour", "LRoomsOfHours$Tour;", true)
def am_R7 : String := "RoomsOfHoursModel"
def am_T7 : u_T := fun k => match k with
  | 0 => ("RoomsOfHoursModel", "length", "I", false)
  | 1 => ("RoomsOfHoursModel", "text", "[I", true)
  | 2 => ("RoomsOfHoursModel", "rooms", "[I", true)
  | 3 => ("RoomsOfHoursModel", "paceP", "[I", true)
  | 4 => ("RoomsOfHoursModel", "paceQ", "[I", true)
  | 5 => ("RoomsOfHoursModel", "shows", "[I", true)
  | 6 => ("RoomsOfHoursModel", "doors", "[I", true)
  | 7 => ("RoomsOfHoursModel", "doorA", "[I", true)
  | 8 => ("RoomsOfHoursModel", "doorB", "[I", true)
  | 9 => ("RoomsOfHoursModel", "leads", "[I", true)
  | 10 => ("RoomsOfHoursModel", "persons", "[I", true)
  | 11 => ("RoomsOfHoursModel", "startRoom", "[I", true)
  | 12 => ("RoomsOfHoursModel", "startAge", "[I", true)
  | 13 => ("RoomsOfHoursModel", "things", "[I", true)
  | 14 => ("RoomsOfHoursModel", "thingRoom", "[I", true)
  | 15 => ("RoomsOfHoursModel", "kinds", "[I", true)
  | 16 => ("RoomsOfHoursModel", "ns", "[I", true)
  | 17 => ("RoomsOfHoursModel", "walk", "[I", true)
  | 18 => ("RoomsOfHoursModel", "acts", "[I", true)
  | 19 => ("RoomsOfHoursModel", "actKind", "[I", true)
  | 20 => ("RoomsOfHoursModel", "actWho", "[I", true)
  | 21 => ("RoomsOfHoursModel", "actWhat", "[I", true)
  | 22 => ("RoomsOfHoursModel", "keptMany", "I", false)
  | 23 => ("RoomsOfHoursModel", "seenMany", "I", false)
  | 24 => ("RoomsOfHoursModel", "seenRoom", "[I", true)
  | 25 => ("RoomsOfHoursModel", "seenHours", "[I", true)
  | 26 => ("RoomsOfHoursModel", "seenOn", "[I", true)
  | 27 => ("RoomsOfHoursModel", "spot", "I", false)
  | 28 => ("RoomsOfHoursModel", "told", "[I", true)
  | 29 => ("RoomsOfHoursModel", "at", "[I", true)
  | 30 => ("RoomsOfHoursModel", "tick", "[I", true)
  | 31 => ("RoomsOfHoursModel", "age", "[I", true)
  | 32 => ("RoomsOfHoursModel", "lies", "[I", true)
  | 33 => ("RoomsOfHoursModel", "holder", "[I", true)
  | 34 => ("RoomsOfHoursModel", "since", "[I", true)
  | 35 => ("RoomsOfHoursModel", "old", "[I", true)
  | 36 => ("RoomsOfHoursModel", "visits", "[I", true)
  | 37 => ("RoomsOfHoursModel", "visitRoom", "[I", true)
  | 38 => ("RoomsOfHoursModel", "visitFrom", "[I", true)
  | 39 => ("RoomsOfHoursModel", "visitTo", "[I", true)
  | 40 => ("RoomsOfHoursModel", "low", "[I", true)
  | 41 => ("RoomsOfHoursModel", "leadTo", "[I", true)
  | 42 => ("RoomsOfHoursModel", "here", "[I", true)
  | 43 => ("RoomsOfHoursModel", "there", "[I", true)
  | _ => ("RoomsOfHoursModel", "ticksOf", "[I", true)
abbrev am_cls : List vw_C := [(am_R0, am_T0, 4), (am_R1, am_T1, 15), (am_R2, am_T2, 19), (am_R3, am_T3, 4), (am_R4, am_T4, 4), (am_R5, am_T5, 4), (am_R6, am_T6, 13), (am_R7, am_T7, 45)]
def am_y0 : Nat → FieldType := fun k => match k with
  | 0 => .array .int
  | 1 => .array .int
  | 2 => .array .int
  | _ => .int
theorem am_y0_ok : ∀ k, k < 4 → parseFieldDescriptor (am_T0 k).2.2.1 = some (am_y0 k) := by decide +kernel
theorem am_n0 : ∀ a, a < 4 → ∀ b, b < 4 → a ≠ b → (am_T0 a).2.1 ≠ (am_T0 b).2.1 := by decide +kernel
theorem am_i0 : ∀ w ∈ u_ws am_R0 am_T0 4, w ∈ am_tbl := am_ins [258, 260, 262, 264] (by decide +kernel) (by decide +kernel)
def am_y1 : Nat → FieldType := fun k => match k with
  | 0 => .object "RoomsOfHours$House"
  | 1 => .int
  | 2 => .array .int
  | 3 => .array .int
  | 4 => .array .int
  | 5 => .array .int
  | 6 => .array .int
  | 7 => .array .int
  | 8 => .array .int
  | 9 => .array .int
  | 10 => .array .int
  | 11 => .array .int
  | 12 => .array .int
  | 13 => .array .int
  | _ => .int
theorem am_y1_ok : ∀ k, k < 15 → parseFieldDescriptor (am_T1 k).2.2.1 = some (am_y1 k) := by decide +kernel
theorem am_n1 : ∀ a, a < 15 → ∀ b, b < 15 → a ≠ b → (am_T1 a).2.1 ≠ (am_T1 b).2.1 := by decide +kernel
theorem am_i1 : ∀ w ∈ u_ws am_R1 am_T1 15, w ∈ am_tbl := am_ins [213, 215, 217, 219, 221, 223, 225, 227, 229, 231, 233, 235, 237, 239, 241] (by decide +kernel) (by decide +kernel)
def am_y2 : Nat → FieldType := fun k => match k with
  | 0 => .array .int
  | 1 => .array .int
  | 2 => .array .int
  | 3 => .array .int
  | 4 => .array .int
  | 5 => .array .int
  | 6 => .array .int
  | 7 => .array .int
  | 8 => .array .int
  | 9 => .array .int
  | 10 => .array .int
  | 11 => .array .int
  | 12 => .array .int
  | 13 => .array .int
  | 14 => .int
  | 15 => .int
  | 16 => .int
  | 17 => .int
  | _ => .int
theorem am_y2_ok : ∀ k, k < 19 → parseFieldDescriptor (am_T2 k).2.2.1 = some (am_y2 k) := by decide +kernel
theorem am_n2 : ∀ a, a < 19 → ∀ b, b < 19 → a ≠ b → (am_T2 a).2.1 ≠ (am_T2 b).2.1 := by decide +kernel
theorem am_i2 : ∀ w ∈ u_ws am_R2 am_T2 19, w ∈ am_tbl := am_ins [141, 143, 145, 147, 149, 151, 153, 155, 157, 159, 161, 163, 165, 167, 169, 171, 173, 175, 177] (by decide +kernel) (by decide +kernel)
def am_y3 : Nat → FieldType := fun k => match k with
  | 0 => .array .int
  | 1 => .array .int
  | 2 => .array .int
  | _ => .int
theorem am_y3_ok : ∀ k, k < 4 → parseFieldDescriptor (am_T3 k).2.2.1 = some (am_y3 k) := by decide +kernel
theorem am_n3 : ∀ a, a < 4 → ∀ b, b < 4 → a ≠ b → (am_T3 a).2.1 ≠ (am_T3 b).2.1 := by decide +kernel
theorem am_i3 : ∀ w ∈ u_ws am_R3 am_T3 4, w ∈ am_tbl := am_ins [278, 280, 282, 284] (by decide +kernel) (by decide +kernel)
def am_y4 : Nat → FieldType := fun k => match k with
  | 0 => .array .int
  | 1 => .array .int
  | 2 => .int
  | _ => .int
theorem am_y4_ok : ∀ k, k < 4 → parseFieldDescriptor (am_T4 k).2.2.1 = some (am_y4 k) := by decide +kernel
theorem am_n4 : ∀ a, a < 4 → ∀ b, b < 4 → a ≠ b → (am_T4 a).2.1 ≠ (am_T4 b).2.1 := by decide +kernel
theorem am_i4 : ∀ w ∈ u_ws am_R4 am_T4 4, w ∈ am_tbl := am_ins [320, 322, 324, 326] (by decide +kernel) (by decide +kernel)
def am_y5 : Nat → FieldType := fun k => match k with
  | 0 => .array .int
  | 1 => .array .int
  | 2 => .array .int
  | _ => .array .int
theorem am_y5_ok : ∀ k, k < 4 → parseFieldDescriptor (am_T5 k).2.2.1 = some (am_y5 k) := by decide +kernel
theorem am_n5 : ∀ a, a < 4 → ∀ b, b < 4 → a ≠ b → (am_T5 a).2.1 ≠ (am_T5 b).2.1 := by decide +kernel
theorem am_i5 : ∀ w ∈ u_ws am_R5 am_T5 4, w ∈ am_tbl := am_ins [299, 301, 303, 305] (by decide +kernel) (by decide +kernel)
def am_y6 : Nat → FieldType := fun k => match k with
  | 0 => .array .char
  | 1 => .int
  | 2 => .object "RoomsOfHours$House"
  | 3 => .object "RoomsOfHours$House"
  | 4 => .object "RoomsOfHours$Course"
  | 5 => .object "RoomsOfHours$Course"
  | 6 => .object "RoomsOfHours$Acts"
  | 7 => .object "RoomsOfHours$Acts"
  | 8 => .object "RoomsOfHours$Acts"
  | 9 => .int
  | 10 => .object "RoomsOfHours$Sights"
  | 11 => .object "RoomsOfHours$Walk"
  | _ => .object "RoomsOfHours$Tour"
theorem am_y6_ok : ∀ k, k < 13 → parseFieldDescriptor (am_T6 k).2.2.1 = some (am_y6 k) := by decide +kernel
theorem am_n6 : ∀ a, a < 13 → ∀ b, b < 13 → a ≠ b → (am_T6 a).2.1 ≠ (am_T6 b).2.1 := by decide +kernel
theorem am_i6 : ∀ w ∈ u_ws am_R6 am_T6 13, w ∈ am_tbl := am_ins [447, 449, 451, 453, 455, 457, 459, 461, 463, 465, 467, 469, 471] (by decide +kernel) (by decide +kernel)
def am_y7 : Nat → FieldType := fun k => match k with
  | 0 => .int
  | 1 => .array .int
  | 2 => .array .int
  | 3 => .array .int
  | 4 => .array .int
  | 5 => .array .int
  | 6 => .array .int
  | 7 => .array .int
  | 8 => .array .int
  | 9 => .array .int
  | 10 => .array .int
  | 11 => .array .int
  | 12 => .array .int
  | 13 => .array .int
  | 14 => .array .int
  | 15 => .array .int
  | 16 => .array .int
  | 17 => .array .int
  | 18 => .array .int
  | 19 => .array .int
  | 20 => .array .int
  | 21 => .array .int
  | 22 => .int
  | 23 => .int
  | 24 => .array .int
  | 25 => .array .int
  | 26 => .array .int
  | 27 => .int
  | 28 => .array .int
  | 29 => .array .int
  | 30 => .array .int
  | 31 => .array .int
  | 32 => .array .int
  | 33 => .array .int
  | 34 => .array .int
  | 35 => .array .int
  | 36 => .array .int
  | 37 => .array .int
  | 38 => .array .int
  | 39 => .array .int
  | 40 => .array .int
  | 41 => .array .int
  | 42 => .array .int
  | 43 => .array .int
  | _ => .array .int
theorem am_y7_ok : ∀ k, k < 45 → parseFieldDescriptor (am_T7 k).2.2.1 = some (am_y7 k) := by decide +kernel
theorem am_n7 : ∀ a, a < 45 → ∀ b, b < 45 → a ≠ b → (am_T7 a).2.1 ≠ (am_T7 b).2.1 := by decide +kernel
theorem am_i7 : ∀ w ∈ u_ws am_R7 am_T7 45, w ∈ am_tbl := am_ins [948, 950, 952, 954, 956, 958, 960, 962, 964, 966, 968, 970, 972, 974, 976, 978, 980, 982, 984, 986, 988, 990, 992, 994, 996, 998, 1000, 1002, 1004, 1006, 1008, 1010, 1012, 1014, 1016, 1018, 1020, 1022, 1024, 1026, 1028, 1030, 1032, 1034, 1036] (by decide +kernel) (by decide +kernel)
def am_CT : List Nat := [6, 9, 2, 106, 106, 106, 106, 106, 108, 108, 108, 104, 104, 105, 105, 105, 104, 2, 106, 106, 106, 106, 106, 108, 108, 108, 104, 104, 105, 105, 105, 104, 1, 104, 104, 104, 104, 105, 105, 105, 105, 144, 144, 144, 144, 1, 104, 104, 104, 104, 105, 105, 105, 105, 144, 144, 144, 144, 0, 140, 140, 140, 0, 140, 140, 140, 0, 140, 140, 140, 3, 108, 108, 108, 5, 106, 106, 106, 106, 4, 484, 484, 7, 300, 102, 112, 112, 112, 102, 116, 116, 116, 102, 108, 108, 102, 110, 110, 110, 102, 103, 220, 220, 220, 108, 108, 108, 104, 104, 104, 104, 105, 105, 105, 105, 104, 264, 264, 264, 154, 106, 484, 484, 104]
def am_lk : List Nat → Nat → Nat
  | [], _ => 8
  | a :: _, 0 => a
  | _ :: l, n + 1 => am_lk l n
def am_ct (k : Nat) : Nat := am_lk am_CT k
def am_FT : List (List (Nat × Nat × Nat)) := [[(1, 140, 1), (1, 140, 2), (1, 140, 3), (0, 0, 0)], [(2, 2, 0), (0, 0, 0), (1, 104, 1), (1, 104, 2), (1, 104, 3), (1, 104, 4), (1, 105, 5), (1, 105, 6), (1, 105, 7), (1, 105, 8), (1, 144, 9), (1, 144, 10), (1, 144, 11), (1, 144, 12), (0, 0, 0)], [(1, 106, 1), (1, 106, 2), (1, 106, 3), (1, 106, 4), (1, 106, 5), (1, 108, 6), (1, 108, 7), (1, 108, 8), (1, 104, 9), (1, 104, 10), (1, 105, 11), (1, 105, 12), (1, 105, 13), (1, 104, 14), (0, 0, 0), (0, 0, 0), (0, 0, 0), (0, 0, 0), (0, 0, 0)], [(1, 108, 1), (1, 108, 2), (1, 108, 3), (0, 0, 0)], [(2, 484, 0), (2, 484, 0), (0, 0, 0), (0, 0, 0)], [(1, 106, 1), (1, 106, 2), (1, 106, 3), (1, 106, 4)], [(1, 9, 1), (0, 0, 0), (2, 2, 0), (2, 2, 0), (1, 1, 32), (1, 1, 45), (1, 0, 58), (1, 0, 62), (1, 0, 66), (0, 0, 0), (1, 3, 70), (1, 5, 74), (1, 4, 79)], [(0, 0, 0), (1, 300, 1), (1, 102, 2), (1, 112, 3), (1, 112, 4), (1, 112, 5), (1, 102, 6), (1, 116, 7), (1, 116, 8), (1, 116, 9), (1, 102, 10), (1, 108, 11), (1, 108, 12), (1, 102, 13), (1, 110, 14), (1, 110, 15), (1, 110, 16), (1, 102, 17), (1, 103, 18), (1, 220, 19), (1, 220, 20), (1, 220, 21), (0, 0, 0), (0, 0, 0), (1, 108, 22), (1, 108, 23), (1, 108, 24), (0, 0, 0), (1, 104, 25), (1, 104, 26), (1, 104, 27), (1, 104, 28), (1, 105, 29), (1, 105, 30), (1, 105, 31), (1, 105, 32), (1, 104, 33), (1, 264, 34), (1, 264, 35), (1, 264, 36), (1, 154, 37), (1, 106, 38), (1, 484, 39), (1, 484, 40), (1, 104, 41)]]
def am_ft (t j : Nat) : Nat × Nat × Nat := (am_FT.getD t []).getD j (0, 0, 0)
def am_nf (t : Nat) : Nat := (am_FT.getD t []).length
/-- the fields of the cells below n that are final references lead to cells below n, of the kind that the table says -/
def am_clo (n : Nat) : Bool := (List.range n).all fun o => (List.range (am_nf (am_ct o))).all fun j => !(decide (am_ct o < 8) && (am_ft (am_ct o) j).1 == 1) || (decide (o + (am_ft (am_ct o) j).2.2 < n) && am_ct (o + (am_ft (am_ct o) j).2.2) == (am_ft (am_ct o) j).2.1)
theorem am_clo82 : am_clo 82 = true := by decide +kernel
theorem am_clo124 : am_clo 124 = true := by decide +kernel
theorem am_clo_of {n o j : Nat} (h : am_clo n = true) (ho : o < n) (h8 : am_ct o < 8) (hj : j < am_nf (am_ct o)) {t off : Nat} (hf : am_ft (am_ct o) j = (1, t, off)) : o + off < n ∧ am_ct (o + off) = t := by
  have h1 := List.all_eq_true.mp h o (List.mem_range.mpr ho)
  have h2 := List.all_eq_true.mp h1 j (List.mem_range.mpr hj)
  rw [hf] at h2
  simp [h8] at h2
  exact h2
/-- every cell is an object, the letters, or a row of ints -/
def am_kdB (n : Nat) : Bool := (List.range n).all fun o => decide (am_ct o < 8) || am_ct o == 9 || decide (100 ≤ am_ct o)
def am_cv (b0 bS : Nat) : am_V → Value
  | Sum.inl x => .int x
  | Sum.inr (Sum.inl (t, a)) => .ref (if t = 8 then bS else b0 + a)
  | Sum.inr (Sum.inr x) => .long x
theorem am_cv_cat (b0 bS : Nat) (v : am_V) : (am_cv b0 bS v).category = am_cat v := by
  rcases v with x | ⟨t, a⟩ | x <;> rfl
def am_ok (nC : Nat) (sc : Prop) : am_V → Prop
  | Sum.inr (Sum.inl (t, a)) => if t = 8 then sc else a < nC ∧ am_ct a = t
  | _ => True
def am_lv (f : am_V → Value) : Nat → am_L → List (Nat × Value)
  | _, [] => []
  | i, none :: l => am_lv f (i + 1) l
  | i, some v :: l => (i, f v) :: am_lv f (i + 1) l
theorem am_lv_mem {f : am_V → Value} (l : am_L) : ∀ (i : Nat) (q : Nat × Value), q ∈ am_lv f i l ↔ ∃ (j : Nat) (v : am_V), am_ix l j = some v ∧ q = (i + j, f v) := by
  induction l with
  | nil => intro i q; simp [am_lv, am_ix]
  | cons a l ih =>
    intro i q
    have key : (∃ (j : Nat) (v : am_V), am_ix (a :: l) j = some v ∧ q = (i + j, f v)) ↔ (∃ v, a = some v ∧ q = (i, f v)) ∨ ∃ (j : Nat) (v : am_V), am_ix l j = some v ∧ q = (i + 1 + j, f v) := by
      constructor
      · rintro ⟨j, v, h1, h2⟩
        match j, h1, h2 with
        | 0, h1, h2 => exact Or.inl ⟨v, h1, h2⟩
        | j + 1, h1, h2 => exact Or.inr ⟨j, v, h1, by rw [h2]; congr 1; omega⟩
      · rintro (⟨v, h1, h2⟩ | ⟨j, v, h1, h2⟩)
        · exact ⟨0, v, h1, h2⟩
        · exact ⟨j + 1, v, h1, by rw [h2]; congr 1; omega⟩
    rw [key]
    cases a with
    | none => simp [am_lv, ih]
    | some v => simp [am_lv, ih]
theorem am_ix_st (l : am_L) : ∀ (i j : Nat) (w : Option am_V), am_ix (am_st l i w) j = if j = i ∧ i < l.length then w else am_ix l j := by
  induction l with
  | nil => intro i j w; simp [am_st, am_ix]
  | cons a l ih =>
    intro i j w
    match i, j with
    | 0, 0 => simp [am_st, am_ix]
    | 0, j + 1 => simp [am_st, am_ix]
    | i + 1, 0 => simp [am_st, am_ix]
    | i + 1, j + 1 => simp [am_st, am_ix, ih]
theorem am_st_len (l : am_L) : ∀ (i : Nat) (w : Option am_V), (am_st l i w).length = l.length := by
  induction l with
  | nil => intro i w; rfl
  | cons a l ih =>
    intro i w
    match i with
    | 0 => rfl
    | i + 1 => simp [am_st, ih]
theorem am_ix_lt {l : am_L} : ∀ {i : Nat} {v : am_V}, am_ix l i = some v → i < l.length := by
  induction l with
  | nil => intro i v h; simp [am_ix] at h
  | cons a l ih =>
    intro i v h
    match i, h with
    | 0, _ => simp
    | i + 1, h => have := ih (i := i) h; simp; omega
/-- the locals -/
def am_LR (f : am_V → Value) (nL : Nat) (ls : am_L) (sl : Array Slot) : Prop := ls.length = nL ∧ lv_has sl nL (am_lv f 0 ls)
theorem am_LR.ld {f : am_V → Value} {nL : Nat} {ls : am_L} {sl : Array Slot} (h : am_LR f nL ls sl) {i : Nat} {v : am_V} (hi : am_ix ls i = some v) : sl[i]? = some (.val (f v)) :=
  h.2.2.2 (i, f v) ((am_lv_mem ls 0 _).mpr ⟨i, v, hi, by simp⟩)
theorem am_LR.at {f : am_V → Value} {nL : Nat} {ls : am_L} {sl : Array Slot} (h : am_LR f nL ls sl) {i : Nat} {v : am_V} (hi : am_ix ls i = some v) : ∃ k : Nat, (am_lv f 0 ls)[k]? = some (i, f v) :=
  List.getElem?_of_mem ((am_lv_mem ls 0 _).mpr ⟨i, v, hi, by simp⟩)
theorem am_pre_some {ls : am_L} {i : Nat} {k : am_Z} {r : am_H × Option Int32} (h : am_pre ls i k = some r) : k = some r ∧ ∀ (j : Nat) (w : am_V), j + 1 = i → am_ix ls j = some w → am_cat w = 1 := by
  match i, h with
  | 0, h => exact ⟨h, fun j w hj => by omega⟩
  | i + 1, h =>
    have h : (match am_ix ls i with
      | some (Sum.inr (Sum.inr _)) => none
      | _ => k) = some r := h
    split at h
    · cases h
    · rename_i hn
      refine ⟨h, fun j w hj hw => ?_⟩
      have : j = i := by omega
      subst this
      rcases w with x | ⟨t, a⟩ | x
      · rfl
      · rfl
      · exact absurd hw (hn x)
theorem am_LR.st1 {f : am_V → Value} (hf : ∀ v, (f v).category = am_cat v) {nL : Nat} {ls : am_L} {sl sl' : Array Slot} (h : am_LR f nL ls sl) {i : Nat} {v : am_V} (hpre : ∀ (j : Nat) (w : am_V), j + 1 = i → am_ix ls j = some w → am_cat w = 1)
    (h' : lv_has sl' nL ((i, f v) :: (am_lv f 0 ls).filter (fun q => !(q.1 == i) && !(q.1 + 1 == i && q.2.category == 2)))) : am_LR f nL (am_st ls i (some v)) sl' := by
  refine ⟨by rw [am_st_len]; exact h.1, h'.1, h'.2.1, fun q hq => h'.2.2 q ?_⟩
  obtain ⟨j, w, h1, rfl⟩ := (am_lv_mem _ 0 q).mp hq
  rw [am_ix_st] at h1
  split at h1
  · rename_i hc
    cases h1
    rw [hc.1]
    simp
  · rename_i hc
    have hj : j ≠ i := fun e => hc ⟨e, by rw [← e]; exact am_ix_lt (by first | exact h1)⟩
    refine List.mem_cons_of_mem _ (List.mem_filter.mpr ⟨(am_lv_mem ls 0 _).mpr ⟨j, w, h1, rfl⟩, ?_⟩)
    simp only [Nat.zero_add, Bool.and_eq_true, Bool.not_eq_true', beq_eq_false_iff_ne, ne_eq]
    refine ⟨hj, ?_⟩
    by_cases e : j + 1 = i
    · have := hpre j w e h1
      simp [hf, this]
    · simp [e]
theorem am_LR.st2 {f : am_V → Value} (hf : ∀ v, (f v).category = am_cat v) {nL : Nat} {ls : am_L} {sl sl' : Array Slot} (h : am_LR f nL ls sl) {i : Nat} {v : am_V} (hpre : ∀ (j : Nat) (w : am_V), j + 1 = i → am_ix ls j = some w → am_cat w = 1)
    (h' : lv_has sl' nL ((i, f v) :: (am_lv f 0 ls).filter (fun q => !(q.1 == i) && (!(q.1 == i + 1) && !(q.1 + 1 == i && q.2.category == 2))))) : am_LR f nL (am_st (am_st ls i (some v)) (i + 1) none) sl' := by
  refine ⟨by rw [am_st_len, am_st_len]; exact h.1, h'.1, h'.2.1, fun q hq => h'.2.2 q ?_⟩
  obtain ⟨j, w, h1, rfl⟩ := (am_lv_mem _ 0 q).mp hq
  have hj1 : j ≠ i + 1 := by
    intro e
    have hl := am_ix_lt h1
    rw [am_st_len] at hl
    rw [am_ix_st, if_pos ⟨e, by omega⟩] at h1
    cases h1
  rw [am_ix_st, if_neg (fun q => hj1 q.1), am_ix_st] at h1
  split at h1
  · rename_i hc
    cases h1
    rw [hc.1]
    simp
  · rename_i hc
    have hj : j ≠ i := fun e => hc ⟨e, by rw [← e]; exact am_ix_lt h1⟩
    refine List.mem_cons_of_mem _ (List.mem_filter.mpr ⟨(am_lv_mem ls 0 _).mpr ⟨j, w, h1, rfl⟩, ?_⟩)
    simp only [Nat.zero_add, Bool.and_eq_true, Bool.not_eq_true', beq_eq_false_iff_ne, ne_eq]
    refine ⟨hj, hj1, ?_⟩
    by_cases e : j + 1 = i
    · have := hpre j w e h1
      simp [hf, this]
    · simp [e]
/-- the world -/
def am_fv (b0 t k j : Nat) (x : Int32) : Value := match am_ft t j with
  | (0, _, _) => .int x
  | (1, _, off) => .ref (b0 + (k + off))
  | _ => .ref (b0 + x.toNatClampNeg)
def am_en (b0 : Nat) (cI cH : ClassId) (k : Nat) (f : Nat → Int32) : va_E :=
  if am_ct k < 8 then .inr (am_ct k, (List.range (am_nf (am_ct k))).map (fun j => am_fv b0 (am_ct k) k j (f j))) else if am_ct k = 9 then .inl (cH, 200, .inl f) else .inl (cI, am_ct k - 100, .inl f)
def am_w (b0 : Nat) (cI cH : ClassId) (nC : Nat) (h : am_H) : va_W := (List.range nC).map (fun k => (b0 + k, am_en b0 cI cH k (h k)))
theorem am_w_get {b0 : Nat} {cI cH : ClassId} {nC : Nat} {h : am_H} {k : Nat} (hk : k < nC) : (am_w b0 cI cH nC h)[k]? = some (b0 + k, am_en b0 cI cH k (h k)) := by
  simp [am_w, hk]
theorem am_w_D (b0 : Nat) (cI cH : ClassId) (nC : Nat) (h : am_H) : va_D (fun q => b0 ≤ q) (am_w b0 cI cH nC h) := by
  have key : ∀ (k : Nat) (p : Nat × va_E), (am_w b0 cI cH nC h)[k]? = some p → p.1 = b0 + k := by
    intro k p hp
    by_cases hk : k < nC
    · rw [am_w_get hk] at hp
      cases hp
      rfl
    · simp [am_w, hk] at hp
  refine ⟨fun i j p q hp hq e => ?_, fun k q hq => ?_⟩
  · have h1 := key i p hp
    have h2 := key j q hq
    omega
  · have h1 := key k q hq
    show b0 ≤ q.1
    omega
theorem am_w_set {b0 : Nat} {cI cH : ClassId} {nC : Nat} {h : am_H} {k : Nat} (f : Nat → Int32) : (am_w b0 cI cH nC h).set k (b0 + k, am_en b0 cI cH k f) = am_w b0 cI cH nC (va_up h k f) := by
  apply List.ext_getElem?
  intro i
  by_cases hi : i < nC
  · by_cases e : k = i
    · subst e
      rw [List.getElem?_set_self (by simp [am_w, hi]), am_w_get hi]
      simp [va_up]
    · rw [List.getElem?_set_ne e, am_w_get hi, am_w_get hi]
      have : i ≠ k := fun q => e q.symm
      simp [va_up, this]
  · simp [am_w, hi]
/-- the fields that hold changing references -/
def am_wf (nC : Nat) (h : am_H) : Prop := ∀ o : Nat, o < nC → am_ct o < 8 → ∀ j : Nat, j < am_nf (am_ct o) → ∀ t off : Nat, am_ft (am_ct o) j = (2, t, off) → (h o j).toNatClampNeg < nC ∧ am_ct (h o j).toNatClampNeg = t
theorem am_wf_arr {nC : Nat} {h : am_H} {a : Nat} {f : Nat → Int32} (hw : am_wf nC h) (ha : ¬ am_ct a < 8) : am_wf nC (va_up h a f) := by
  intro o ho h8 j hj t off hf
  have : o ≠ a := fun e => ha (e ▸ h8)
  have e1 : va_up h a f o = h o := by simp [va_up, this]
  rw [e1]
  exact hw o ho h8 j hj t off hf
theorem am_wf_int {nC : Nat} {h : am_H} {a k : Nat} {x : Int32} (hw : am_wf nC h) (hk : ∀ t off : Nat, am_ft (am_ct a) k ≠ (2, t, off)) : am_wf nC (am_up h a k x) := by
  intro o ho h8 j hj t off hf
  have e1 : am_up h a k x o j = h o j := by
    unfold am_up va_up
    by_cases e : o = a
    · subst e
      have : j ≠ k := fun q => hk t off (q ▸ hf)
      simp [upd, this]
    · simp [e]
  rw [e1]
  exact hw o ho h8 j hj t off hf
theorem am_wf_ref {nC : Nat} {h : am_H} {a k b t' off' : Nat} (hw : am_wf nC h) (hk : am_ft (am_ct a) k = (2, t', off')) (hb : b < nC) (hb' : b < 2 ^ 31) (ht : am_ct b = t') : am_wf nC (am_up h a k (nI b)) := by
  intro o ho h8 j hj t off hf
  by_cases e : o = a ∧ j = k
  · obtain ⟨rfl, rfl⟩ := e
    have e1 : am_up h o j (nI b) o j = nI b := by simp [am_up, va_up, upd]
    rw [e1, nI_clamp hb']
    rw [hk] at hf
    cases hf
    exact ⟨hb, ht⟩
  · have e1 : am_up h a k (nI b) o j = h o j := by
      unfold am_up va_up
      by_cases e2 : o = a
      · subst e2
        have : j ≠ k := fun q => e ⟨rfl, q⟩
        simp [upd, this]
      · simp [e2]
    rw [e1]
    exact hw o ho h8 j hj t off hf
/-! WHAT IS CHECKED OF A ROW, and the methods' table -/
def am_pcI (l : List am_W) (x : Int) : Bool := match l with
  | (pc, _) :: _ => decide ((pc : Int) = x)
  | [] => false
def am_pc (l : List am_W) : Nat := match l with
  | (pc, _) :: _ => pc
  | [] => 0
theorem am_pcI_pc {l : List am_W} {x : Int} (h : am_pcI l x = true) : ((am_pc l : Nat) : Int) = x := by
  match l, h with
  | (pc, _) :: _, h => exact of_decide_eq_true h
def am_tsk (tb : List am_W) (pc : Nat) : Nat → List Int → List Nat → Bool
  | _, [], [] => true
  | v, o :: os, v' :: t :: l => v' == v && am_pcI (am_drp t tb) ((pc : Int) + o) && am_tsk tb pc (v + 1) os l
  | _, _, _ => false
def am_lsk (tb : List am_W) (pc : Nat) : List (Int × Int) → List Nat → Bool
  | [], [] => true
  | (a, o) :: os, v :: t :: l => decide (a = (v : Int)) && decide (v < 2 ^ 31) && am_pcI (am_drp t tb) ((pc : Int) + o) && am_lsk tb pc os l
  | _, _ => false
/-- a method: its name, its bytes, its locals, what it returns, whether it is static; the places of its words: code, static or instance, selects, initialized -/
abbrev am_M : Type := MethodName × ByteArray × Nat × Option FieldType × Bool × List Nat
def am_word (i : Nat) (w : Cond) : Bool := decide (lw_tbl[i]? = some w) && goodWord w
theorem am_word_mem {i : Nat} {w : Cond} (h : am_word i w = true) : w ∈ am_tbl := by
  unfold am_word at h
  rw [Bool.and_eq_true] at h
  exact List.mem_filter.mpr ⟨List.mem_of_getElem? (of_decide_eq_true h.1), h.2⟩
def am_fck (own : String) (idx : Nat) (aux : List Nat) : Bool := match aux with
  | kd :: ci :: sl :: tg :: off :: wi :: _ => (match am_cls[ci]? with
    | some (C, T, N) => decide (sl < N) && decide (N = am_nf ci) && decide ((T sl).1 = C) && decide (am_ft ci sl = (kd, tg, off)) && decide (ci < 8) && decide (kd ≤ 2) && decide (tg ≠ 8) && am_word wi (.fieldLink own idx C (T sl).2.1 (T sl).2.2.1)
    | none => false)
  | _ => false
def am_pck (aux : List Nat) : Bool := match aux with
  | kd :: ci :: sl :: _ => (match am_cls[ci]? with
    | some (_, T, _) => decide ((T sl).2.2.2 = false) && (match kd with
      | 0 => decide (parseFieldDescriptor (T sl).2.2.1 = some .int)
      | _ => (match parseFieldDescriptor (T sl).2.2.1 with
        | some (.object _) => true
        | some (.array _) => true
        | _ => false))
    | none => false)
  | _ => false
section CHK
variable (mt : Nat → am_M) (own : String) (cc : ByteArray) (tb : List am_W) (nL : Nat) (rt : Option FieldType)
def am_ick (st : Bool) (idx : Nat) (aux : List Nat) : Bool := match aux with
  | z :: n :: rv :: ci :: wi :: _ => decide ((mt z).2.2.2.2.1 = st) && (st || decide (am_cls[ci]?.map (fun q => q.1) = some (mt z).1.cls)) && am_word wi (.methodLink own idx (mt z).1) && decide ((parseMethodDescriptor (mt z).1.desc).map (fun d => d.parameters.length) = some (if st then n else n - 1)) && (st || decide (0 < n)) && decide ((mt z).2.2.2.1 = none ↔ rv = 0)
  | _ => false
def am_il : Instr → Nat
  | .iload _ | .aload _ | .lload _ | .istore _ | .lstore _ | .bipush _ | .ldc _ => 2
  | .getfield _ | .putfield _ | .invokevirtual _ | .invokestatic _ | .if_icmp _ _ | .ifCond _ _ | .goto _ | .iinc _ _ | .sipush _ | .ldc_w _ | .ldc2_w _ => 3
  | _ => 1
def am_dck (pc len : Nat) (ins : Instr) : Bool := decide (decode cc pc = .ok (ins, len))
/-- what is to be checked beside the bytes -/
def am_xck (pc len : Nat) (ins : Instr) (aux : List Nat) (q : Int32) (rest : List am_W) : Bool := match ins with
  | .goto off => (match aux with
    | t :: _ => am_pcI (am_drp t tb) ((pc : Int) + off)
    | _ => false)
  | .if_icmp _ off => am_pcI rest ((pc + len : Nat) : Int) && (match aux with
    | t :: _ => am_pcI (am_drp t tb) ((pc : Int) + off)
    | _ => false)
  | .ifCond _ off => am_pcI rest ((pc + len : Nat) : Int) && (match aux with
    | t :: _ => am_pcI (am_drp t tb) ((pc : Int) + off)
    | _ => false)
  | .tableswitch d lo hi offs => (match aux with
    | t :: l => am_pcI (am_drp t tb) ((pc : Int) + d) && decide (0 ≤ lo) && decide (hi + 1 = lo + offs.toList.length) && am_tsk tb pc lo.toNat offs.toList l && decide (hi < 2 ^ 31)
    | _ => false)
  | .lookupswitch d ps => (match aux with
    | t :: l => am_pcI (am_drp t tb) ((pc : Int) + d) && (ps.toList.zip (ps.toList.drop 1)).all (fun (a, next) => a.1 < next.1) && am_lsk tb pc ps.toList l
    | _ => false)
  | .ireturn => (match aux with
    | 0 :: _ => decide (rt = some .int)
    | 1 :: _ => decide (rt = some .boolean)
    | _ => false)
  | .return_ => decide (rt = none)
  | .getfield idx => am_pcI rest ((pc + len : Nat) : Int) && am_fck own idx aux
  | .putfield idx => am_pcI rest ((pc + len : Nat) : Int) && am_fck own idx aux && am_pck aux
  | .invokevirtual idx => am_pcI rest ((pc + len : Nat) : Int) && am_ick mt own false idx aux
  | .invokestatic idx => am_pcI rest ((pc + len : Nat) : Int) && (match aux with
    | 999 :: wi :: _ => am_word wi (.methodLink own idx arraycopyName)
    | _ => am_ick mt own true idx aux)
  | .ldc idx => am_pcI rest ((pc + len : Nat) : Int) && (match aux with
    | wi :: _ => am_word wi (.constant own idx q)
    | _ => false)
  | .ldc_w idx => am_pcI rest ((pc + len : Nat) : Int) && (match aux with
    | wi :: _ => am_word wi (.constant own idx q)
    | _ => false)
  | .ldc2_w idx => am_pcI rest ((pc + len : Nat) : Int) && (match aux with
    | wi :: _ => am_word wi (.constantLong own idx q.toInt64)
    | _ => false)
  | .iconst n => am_pcI rest ((pc + len : Nat) : Int) && decide (Int32.ofInt n = q)
  | .bipush n => am_pcI rest ((pc + len : Nat) : Int) && decide ((Int8.ofInt n).toInt32 = q)
  | .sipush n => am_pcI rest ((pc + len : Nat) : Int) && decide ((Int16.ofInt n).toInt32 = q)
  | .lconst n => am_pcI rest ((pc + len : Nat) : Int) && decide (Int64.ofNat (n : Nat) = q.toInt64)
  | .iinc n k => am_pcI rest ((pc + len : Nat) : Int) && decide (Int32.ofInt k = q) && decide (n < nL)
  | .istore n => am_pcI rest ((pc + len : Nat) : Int) && decide (n < nL)
  | .istore_n n => am_pcI rest ((pc + len : Nat) : Int) && decide (n.val < nL)
  | .astore_n n => am_pcI rest ((pc + len : Nat) : Int) && decide (n.val < nL)
  | .lstore n => am_pcI rest ((pc + len : Nat) : Int) && decide (n + 1 < nL)
  | .lstore_n n => am_pcI rest ((pc + len : Nat) : Int) && decide (n.val + 1 < nL)
  | _ => am_pcI rest ((pc + len : Nat) : Int)
def am_sw? : Instr → Bool
  | .tableswitch _ _ _ _ => true
  | .lookupswitch _ _ => true
  | _ => false
def am_chk (w : am_W) (rest : List am_W) : Bool := match w with
  | (pc, len, ins, aux, q) => (match ins with
    | .nop => (match aux with
      | i :: _ => am_pcI (am_drp i tb) ((pc : Nat) : Int)
      | _ => false)
    | ins => am_dck cc pc len ins && (am_sw? ins || len == am_il ins) && am_xck mt own tb nL rt pc len ins aux q rest)
def am_chks : List am_W → Bool
  | [] => true
  | w :: rest => am_chk mt own cc tb nL rt w rest && am_chks rest
end CHK
theorem am_chks_drp {mt : Nat → am_M} {own : String} {cc : ByteArray} {tb : List am_W} {nL : Nat} {rt : Option FieldType} : ∀ (i : Nat) (l : List am_W), am_chks mt own cc tb nL rt l = true → am_chks mt own cc tb nL rt (am_drp i l) = true := by
  intro i
  induction i with
  | zero => intro l h; exact h
  | succ i ih =>
    intro l h
    match l, h with
    | [], h => exact h
    | w :: l, h =>
      simp only [am_chks, Bool.and_eq_true] at h
      exact ih l h.2
theorem am_drp_succ {w : am_W} {rest : List am_W} : ∀ {i : Nat} {tb : List am_W}, am_drp i tb = w :: rest → rest = am_drp (i + 1) tb := by
  intro i
  induction i with
  | zero =>
    intro tb h
    match tb, h with
    | w' :: l, h => cases h; rfl
  | succ i ih =>
    intro tb h
    match tb, h with
    | w' :: l, h => exact ih (tb := l) h
end
section
/-! SMALL INVERSIONS -/
theorem am_pi_some {st : List am_V} {k : Int32 → List am_V → am_Z} {Z : am_H × Option Int32} (h : am_pi st k = some Z) : ∃ x r, st = vi x :: r ∧ k x r = some Z := by
  match st, h with
  | Sum.inl x :: r, h => exact ⟨x, r, rfl, h⟩
theorem am_pa_some {st : List am_V} {k : Nat → Nat → List am_V → am_Z} {Z : am_H × Option Int32} (h : am_pa st k = some Z) : ∃ t a r, st = vr t a :: r ∧ k t a r = some Z := by
  match st, h with
  | Sum.inr (Sum.inl (t, a)) :: r, h => exact ⟨t, a, r, rfl, h⟩
theorem am_pl_some {st : List am_V} {k : Int64 → List am_V → am_Z} {Z : am_H × Option Int32} (h : am_pl st k = some Z) : ∃ x r, st = vl x :: r ∧ k x r = some Z := by
  match st, h with
  | Sum.inr (Sum.inr x) :: r, h => exact ⟨x, r, rfl, h⟩
theorem am_2_some {st : List am_V} {k : Int32 → Int32 → List am_V → am_Z} {Z : am_H × Option Int32} (h : am_2 st k = some Z) : ∃ a b r, st = vi b :: vi a :: r ∧ k a b r = some Z := by
  obtain ⟨b, r, rfl, h1⟩ := am_pi_some h
  obtain ⟨a, r, rfl, h2⟩ := am_pi_some h1
  exact ⟨a, b, r, rfl, h2⟩
theorem am_2l_some {st : List am_V} {k : Int64 → Int64 → List am_V → am_Z} {Z : am_H × Option Int32} (h : am_2l st k = some Z) : ∃ a b r, st = vl b :: vl a :: r ∧ k a b r = some Z := by
  obtain ⟨b, r, rfl, h1⟩ := am_pl_some h
  obtain ⟨a, r, rfl, h2⟩ := am_pl_some h1
  exact ⟨a, b, r, rfl, h2⟩
theorem am_ldi_some {l : am_L} {i : Nat} {k : Int32 → am_Z} {Z : am_H × Option Int32} (h : am_ldi l i k = some Z) : ∃ x, am_ix l i = some (vi x) ∧ k x = some Z := by
  unfold am_ldi at h
  split at h
  · rename_i x hx; exact ⟨x, hx, h⟩
  · cases h
theorem am_lda_some {l : am_L} {i : Nat} {k : Nat → Nat → am_Z} {Z : am_H × Option Int32} (h : am_lda l i k = some Z) : ∃ t a, am_ix l i = some (vr t a) ∧ k t a = some Z := by
  unfold am_lda at h
  split at h
  · rename_i t a hx; exact ⟨t, a, hx, h⟩
  · cases h
theorem am_ldl_some {l : am_L} {i : Nat} {k : Int64 → am_Z} {Z : am_H × Option Int32} (h : am_ldl l i k = some Z) : ∃ x, am_ix l i = some (vl x) ∧ k x = some Z := by
  unfold am_ldl at h
  split at h
  · rename_i x hx; exact ⟨x, hx, h⟩
  · cases h
theorem am_b_some {n : Nat} {i : Int32} {k : Nat → am_Z} {Z : am_H × Option Int32} (h : am_b n i k = some Z) : vp_in i n ∧ k i.toNatClampNeg = some Z := by
  unfold am_b at h
  split at h
  · cases h
  · rename_i q; exact ⟨q, h⟩
theorem am_if_some {c : Prop} [Decidable c] {k : am_Z} {Z : am_H × Option Int32} (h : (if c then k else none) = some Z) : c ∧ k = some Z := by
  split at h
  · rename_i q; exact ⟨q, h⟩
  · cases h
theorem am_ifn_some {c : Prop} [Decidable c] {k : am_Z} {Z : am_H × Option Int32} (h : (if c then none else k) = some Z) : ¬ c ∧ k = some Z := by
  split at h
  · cases h
  · rename_i q; exact ⟨q, h⟩
theorem am_r1_some {r : am_Z} {k : am_H → Int32 → am_Z} {Z : am_H × Option Int32} (h : am_r1 r k = some Z) : ∃ h' x, r = some (h', some x) ∧ k h' x = some Z := by
  match r, h with
  | some (h', some x), h => exact ⟨h', x, rfl, h⟩
theorem am_r0_some {r : am_Z} {k : am_H → am_Z} {Z : am_H × Option Int32} (h : am_r0 r k = some Z) : ∃ h', r = some (h', none) ∧ k h' = some Z := by
  match r, h with
  | some (h', none), h => exact ⟨h', rfl, h⟩
theorem am_tk_some {Z : am_H × Option Int32} {k : List am_V → List am_V → am_Z} : ∀ {n : Nat} {st as : List am_V}, am_tk n st as k = some Z → ∃ ts r, st = ts ++ r ∧ ts.length = n ∧ k (ts.reverse ++ as) r = some Z := by
  intro n
  induction n with
  | zero => intro st as h; exact ⟨[], st, rfl, rfl, h⟩
  | succ n ih =>
    intro st as h
    match st, h with
    | v :: st, h =>
      obtain ⟨ts, r, rfl, hl, hk⟩ := ih (st := st) h
      exact ⟨v :: ts, r, rfl, by simp [hl], by simpa using hk⟩
theorem am_cats_sum (b0 bS : Nat) : ∀ (r : List am_V), ((r.map (am_cv b0 bS)).map fun v => v.category).sum = am_cats r := by
  intro r
  induction r with
  | nil => rfl
  | cons v r ih => simp only [List.map_cons, List.sum_cons, am_cats, ih, am_cv_cat]
theorem am_rcv_some {ci : Nat} {as : List am_V} {k : am_Z} {Z : am_H × Option Int32} (h : am_rcv true ci as k = some Z) : ∃ a as', as = vr ci a :: as' ∧ k = some Z := by
  match as, h with
  | Sum.inr (Sum.inl (t, a)) :: as', h =>
    have h : (if t = ci then k else none) = some Z := h
    obtain ⟨rfl, h1⟩ := am_if_some h
    exact ⟨a, as', rfl, h1⟩
theorem am_rcv_any {v : Bool} {ci : Nat} {as : List am_V} {k : am_Z} {Z : am_H × Option Int32} (h : am_rcv v ci as k = some Z) : k = some Z := by
  cases v with
  | false => exact h
  | true => obtain ⟨a, as', -, h1⟩ := am_rcv_some h; exact h1
theorem am_nxt {l : List am_W} {n : Nat} (h : am_pcI l (n : Int) = true) : am_pc l = n := by
  have := am_pcI_pc h
  omega
theorem am_split {mt : Nat → am_M} {own : String} {cc : ByteArray} {tb rest : List am_W} {nL pc len : Nat} {rt : Option FieldType} {ins : Instr} {aux : List Nat} {q : Int32} (h : am_chk mt own cc tb nL rt (pc, len, ins, aux, q) rest = true) (hn : ins ≠ .nop) :
    decode cc pc = .ok (ins, len) ∧ (am_sw? ins = true ∨ len = am_il ins) ∧ am_xck mt own tb nL rt pc len ins aux q rest = true := by
  unfold am_chk at h
  split at h
  rename_i e
  cases e
  split at h
  · exact absurd rfl hn
  · simp only [Bool.and_eq_true, Bool.or_eq_true, beq_iff_eq] at h
    exact ⟨of_decide_eq_true h.1.1, h.1.2, h.2⟩
theorem am_split1 {mt : Nat → am_M} {own : String} {cc : ByteArray} {tb rest : List am_W} {nL pc len : Nat} {rt : Option FieldType} {ins : Instr} {aux : List Nat} {q : Int32} (h : am_chk mt own cc tb nL rt (pc, len, ins, aux, q) rest = true) (hn : ins ≠ .nop) (hs : am_sw? ins = false) :
    decode cc pc = .ok (ins, am_il ins) ∧ am_xck mt own tb nL rt pc (am_il ins) ins aux q rest = true := by
  obtain ⟨h1, h2, h3⟩ := am_split h hn
  rw [hs] at h2
  have h2 : len = am_il ins := by simpa using h2
  subst h2
  exact ⟨h1, h3⟩
/-! WHAT A METHOD'S CONTRACT SAYS -/
/-- the room of a level -/
def am_rm (d : Nat) : Room := { frames := d, cells := 0, slots := 0, locals := 35 * d }
def am_mw (mt : Nat → am_M) (z : Nat) : List Cond := Cond.code (mt z).1 (mt z).2.1 (mt z).2.2.1 (mt z).2.2.2.1 :: am_tbl
abbrev am_A (b0 : Nat) : Nat → Prop := fun q => b0 ≤ q
def am_Pc (b0 nC : Nat) (D : va_G) (cI cH : ClassId) (as : List am_V) (h : am_H) : Array Value → State → Prop := fun v U => v = (as.map (am_cv b0 0)).toArray ∧ va_P D am_cls (am_w b0 cI cH nC h) U.heap ∧ va_K D am_cls [(cI, .int), (cH, .char)] U
def am_Qc (b0 nC : Nat) (D : va_G) (cI cH : ClassId) (h : am_H) (r : Option Int32) : Array Value → State → Outcome → State → Prop := match r with
  | some v => va_Qi (fun x (_ : Unit) => x = v ∧ am_wf nC h) (fun _ t => va_P D am_cls (am_w b0 cI cH nC h) t.heap) (am_A b0)
  | none => va_Qv (fun (_ : Unit) => am_wf nC h) (fun _ t => va_P D am_cls (am_w b0 cI cH nC h) t.heap) (am_A b0)
/-- what G answers, the methods do, in the room of level d -/
def am_GO (l : Launch) (mt : Nat → am_M) (b0 nC : Nat) (D : va_G) (cI cH : ClassId) (d : Nat) (G : Nat → List am_V → am_H → am_Z) : Prop :=
  ∀ (z : Nat) (as : List am_V) (h h' : am_H) (r : Option Int32), G z as h = some (h', r) → (∀ v ∈ as, am_ok nC False v) → am_wf nC h →
    Met l (mt z).1 (am_mw mt z) (am_rm d) (am_Pc b0 nC D cI cH as h) (am_Qc b0 nC D cI cH h' r) 0 0 (am_A b0)
/-- what is known of the methods of the table -/
def am_mck (q : am_M) : Bool := match q with
  | (y, bs, ml, rt, st, g) => decide (y.cls ≠ "java/lang/invoke/MethodHandle") && decide (y.cls ≠ "java/lang/invoke/VarHandle") && decide (ml ≤ 16) && plainFor y && (match g with
    | w0 :: w1 :: w2 :: w3 :: _ => am_word w0 (.code y bs ml rt) && am_word w3 (.initialized y.cls) && (if st then am_word w1 (.static y) else am_word w1 (.instanceMethod y) && am_word w2 (.selects y.cls y y))
    | _ => false)
def am_MT (mt : Nat → am_M) : Prop := ∀ z, am_mck (mt z) = true
theorem am_goodIn {Ts ws : List Cond} (hT : ∀ w ∈ am_tbl, w ∈ Ts) (h : ∀ w ∈ ws, w ∈ am_tbl) : GoodIn Ts ws := fun w hw => ⟨hT w (h w hw), good_of_word (List.mem_filter.mp (h w hw)).2⟩
theorem am_n8_cv {b0 bS : Nat} : ∀ {as : List am_V}, am_n8 as = true → as.map (am_cv b0 bS) = as.map (am_cv b0 0) := by
  intro as
  induction as with
  | nil => intro _; rfl
  | cons v as ih =>
    intro h
    rcases v with x | ⟨t, a⟩ | x
    · simp only [List.map_cons, ih (show am_n8 as = true from h)]
      rfl
    · have h : (if t = 8 then false else am_n8 as) = true := h
      split at h
      · cases h
      · rename_i ht
        simp only [List.map_cons, ih h, am_cv, ht, if_false]
    · simp only [List.map_cons, ih (show am_n8 as = true from h)]
      rfl
theorem am_n8_ok {nC : Nat} {sc : Prop} : ∀ {as : List am_V}, am_n8 as = true → (∀ v ∈ as, am_ok nC sc v) → ∀ v ∈ as, am_ok nC False v := by
  intro as
  induction as with
  | nil => intro _ _ v hv; cases hv
  | cons w as ih =>
    intro h hk v hv
    have htl : ∀ v ∈ as, am_ok nC sc v := fun v hv => hk v (List.mem_cons_of_mem _ hv)
    rcases w with x | ⟨t, a⟩ | x
    · rcases List.mem_cons.mp hv with rfl | hv
      · trivial
      · exact ih (show am_n8 as = true from h) htl v hv
    · have h : (if t = 8 then false else am_n8 as) = true := h
      split at h
      · cases h
      · rename_i ht
        rcases List.mem_cons.mp hv with rfl | hv
        · have := hk _ List.mem_cons_self
          simp only [am_ok, ht, if_false] at this ⊢
          exact this
        · exact ih h htl v hv
    · rcases List.mem_cons.mp hv with rfl | hv
      · trivial
      · exact ih (show am_n8 as = true from h) htl v hv
section SIM
variable {p : Program} {l : Launch} {e : Env} {R : Room} {s : State} {m : MethodId} {args : Array Value} {below : List Frame} {meth : Method} {c : Code} {cells slots : Nat} {Q : State → Prop}
variable {mt : Nat → am_M} {own : String} {cc : ByteArray} {tb : List am_W} {nL b0 bS nC L d : Nat} {xs : Nat → Int32} {D : va_G} {cI cH : ClassId} {sc : Prop} {rt : Option FieldType} {G : Nat → List am_V → am_H → am_Z}
/-- what holds throughout a method's walk -/
def am_Cx (p : Program) (s : State) (m : MethodId) (args : Array Value) (c : Code) (R : Room) (mt : Nat → am_M) (own : String) (cc : ByteArray) (tb : List am_W) (nL b0 bS nC L d : Nat) (xs : Nat → Int32) (D : va_G) (cI cH : ClassId) (sc : Prop) (rt : Option FieldType) : Prop :=
  p.tables.exec = Jvm.exec ∧ c.code = cc ∧ c.maxLocals = nL ∧ s.vm.findClass own = some m.cls ∧ (∀ w ∈ am_tbl, w.before args s = true) ∧ va_K D am_cls [(cI, .int), (cH, .char)] s ∧ am_chks mt own cc tb nL rt tb = true ∧ am_clo nC = true ∧ nC < 1000 ∧ (d + 1 ≤ R.frames ∧ 35 * d + 35 ≤ R.locals) ∧ (sc → va_X bS L xs s s.heap ∧ bS < s.heap.size ∧ ¬ b0 ≤ bS) ∧ am_MT mt
/-- what holds of a frame -/
def am_S (s : State) (nL b0 bS nC : Nat) (D : va_G) (cI cH : ClassId) (sc : Prop) (ls : am_L) (st : List am_V) (h : am_H) (sl : Array Slot) (H : Heap) (locs : List Loc) : Prop :=
  am_LR (am_cv b0 bS) nL ls sl ∧ (∀ i v, am_ix ls i = some v → am_ok nC sc v) ∧ (∀ v ∈ st, am_ok nC sc v) ∧ va_P D am_cls (am_w b0 cI cH nC h) H ∧ am_wf nC h ∧ va_S (am_A b0) s.heap H locs
theorem am_S.stk {ls : am_L} {st st' : List am_V} {h : am_H} {sl : Array Slot} {H : Heap} {locs : List Loc} (S : am_S s nL b0 bS nC D cI cH sc ls st h sl H locs) (hs : ∀ v ∈ st', am_ok nC sc v) : am_S s nL b0 bS nC D cI cH sc ls st' h sl H locs := ⟨S.1, S.2.1, hs, S.2.2.2⟩
theorem am_S.tl {ls : am_L} {v : am_V} {st : List am_V} {h : am_H} {sl : Array Slot} {H : Heap} {locs : List Loc} (S : am_S s nL b0 bS nC D cI cH sc ls (v :: st) h sl H locs) : am_S s nL b0 bS nC D cI cH sc ls st h sl H locs := S.stk fun w hw => S.2.2.1 w (List.mem_cons_of_mem _ hw)
theorem am_S.ps {ls : am_L} {v : am_V} {st : List am_V} {h : am_H} {sl : Array Slot} {H : Heap} {locs : List Loc} (S : am_S s nL b0 bS nC D cI cH sc ls st h sl H locs) (hv : am_ok nC sc v) : am_S s nL b0 bS nC D cI cH sc ls (v :: st) h sl H locs := S.stk fun w hw => (List.mem_cons.mp hw).elim (fun e => e ▸ hv) (S.2.2.1 w)
theorem am_S.hd {ls : am_L} {v : am_V} {st : List am_V} {h : am_H} {sl : Array Slot} {H : Heap} {locs : List Loc} (S : am_S s nL b0 bS nC D cI cH sc ls (v :: st) h sl H locs) : am_ok nC sc v := S.2.2.1 v List.mem_cons_self
theorem am_S.loc {ls ls' : am_L} {st : List am_V} {h : am_H} {sl sl' : Array Slot} {H : Heap} {locs : List Loc} (S : am_S s nL b0 bS nC D cI cH sc ls st h sl H locs) (h1 : am_LR (am_cv b0 bS) nL ls' sl') (h2 : ∀ i v, am_ix ls' i = some v → am_ok nC sc v) : am_S s nL b0 bS nC D cI cH sc ls' st h sl' H locs := ⟨h1, h2, S.2.2⟩
theorem am_okst {ls : am_L} {i : Nat} {v : am_V} (h : ∀ i v, am_ix ls i = some v → am_ok nC sc v) (hv : am_ok nC sc v) : ∀ j w, am_ix (am_st ls i (some v)) j = some w → am_ok nC sc w := by
  intro j w hw
  rw [am_ix_st] at hw
  split at hw
  · cases hw; exact hv
  · exact h j w hw
theorem am_okst0 {ls : am_L} {i : Nat} (h : ∀ i v, am_ix ls i = some v → am_ok nC sc v) : ∀ j w, am_ix (am_st ls i none) j = some w → am_ok nC sc w := by
  intro j w hw
  rw [am_ix_st] at hw
  split at hw
  · cases hw
  · exact h j w hw
/-- from the next row on -/
def am_Nx (p : Program) (l : Launch) (e : Env) (R : Room) (s : State) (m : MethodId) (args : Array Value) (below : List Frame) (meth : Method) (c : Code) (cells slots : Nat) (Q : State → Prop) (nL b0 bS nC : Nat) (D : va_G) (cI cH : ClassId) (sc : Prop) (n : Nat) (k : am_L → List am_V → am_H → am_Z) (Z : am_H × Option Int32) : Prop :=
  ∀ (ls : am_L) (st : List am_V) (h : am_H) (sl : Array Slot) (H : Heap) (locs : List Loc), k ls st h = some Z → am_S s nL b0 bS nC D cI cH sc ls st h sl H locs → W p l e R s m args below meth c H locs cells slots Q (F0 m n sl (st.map (am_cv b0 bS)))
/-- a reference to a cell that stands -/
theorem am_obj {h : am_H} {a t : Nat} (hok : am_ok nC sc (vr t a)) (h8 : t ≠ 8) : a < nC ∧ am_ct a = t := by
  simpa [am_ok, h8] using hok
theorem am_at_obj {h : am_H} {a t : Nat} (ha : a < nC) (ht : am_ct a = t) (h8 : t < 8) : (am_w b0 cI cH nC h)[a]? = some (b0 + a, .inr (t, (List.range (am_nf t)).map (fun j => am_fv b0 t a j (h a j)))) := by
  rw [am_w_get ha]
  simp [am_en, ht, h8]
theorem am_at_int {h : am_H} {a t : Nat} (ha : a < nC) (ht : am_ct a = t) (h8 : 100 ≤ t) : (am_w b0 cI cH nC h)[a]? = some (b0 + a, .inl (cI, t - 100, .inl (h a))) := by
  rw [am_w_get ha]
  have h1 : ¬ t < 8 := by omega
  have h2 : ¬ t = 9 := by omega
  simp [am_en, ht, h1, h2]
theorem am_at_chr {h : am_H} {a : Nat} (ha : a < nC) (ht : am_ct a = 9) : (am_w b0 cI cH nC h)[a]? = some (b0 + a, .inl (cH, 200, .inl (h a))) := by
  rw [am_w_get ha]
  simp [am_en, ht]
theorem am_en_int {a t : Nat} (ht : am_ct a = t) (h8 : 100 ≤ t) (f : Nat → Int32) : am_en b0 cI cH a f = .inl (cI, t - 100, .inl f) := by
  have h1 : ¬ t < 8 := by omega
  have h2 : ¬ t = 9 := by omega
  simp [am_en, ht, h1, h2]
theorem am_en_chr {a : Nat} (ht : am_ct a = 9) (f : Nat → Int32) : am_en b0 cI cH a f = .inl (cH, 200, .inl f) := by
  simp [am_en, ht]
/-- the new world behind a write into a cell -/
theorem am_S.wr {ls : am_L} {st : List am_V} {h : am_H} {sl : Array Slot} {H H1 : Heap} {locs locs1 : List Loc} {a : Nat} {f : Nat → Int32} (S : am_S s nL b0 bS nC D cI cH sc ls st h sl H locs) {en : va_E} (hen : am_en b0 cI cH a f = en)
    (hP : va_P D am_cls ((am_w b0 cI cH nC h).set a (b0 + a, en)) H1) (hw : am_wf nC (va_up h a f)) (hS : va_S (am_A b0) s.heap H1 locs1) : am_S s nL b0 bS nC D cI cH sc ls st (va_up h a f) sl H1 locs1 := by
  refine ⟨S.1, S.2.1, S.2.2.1, ?_, hw, hS⟩
  rw [← hen, am_w_set] at hP
  exact hP
end SIM
theorem am_cin : ∀ {ci : Nat} {C : String} {T : u_T} {N : Nat}, am_cls[ci]? = some (C, T, N) → (∀ w ∈ u_ws C T N, w ∈ am_tbl) ∧ ∃ y : Nat → FieldType, (∀ k, k < N → parseFieldDescriptor (T k).2.2.1 = some (y k)) ∧ ∀ a, a < N → ∀ b, b < N → a ≠ b → (T a).2.1 ≠ (T b).2.1 := by
  intro ci C T N h
  match ci, h with
  | 0, h => cases h; exact ⟨am_i0, am_y0, am_y0_ok, am_n0⟩
  | 1, h => cases h; exact ⟨am_i1, am_y1, am_y1_ok, am_n1⟩
  | 2, h => cases h; exact ⟨am_i2, am_y2, am_y2_ok, am_n2⟩
  | 3, h => cases h; exact ⟨am_i3, am_y3, am_y3_ok, am_n3⟩
  | 4, h => cases h; exact ⟨am_i4, am_y4, am_y4_ok, am_n4⟩
  | 5, h => cases h; exact ⟨am_i5, am_y5, am_y5_ok, am_n5⟩
  | 6, h => cases h; exact ⟨am_i6, am_y6, am_y6_ok, am_n6⟩
  | 7, h => cases h; exact ⟨am_i7, am_y7, am_y7_ok, am_n7⟩
  | k + 8, h => simp [am_cls] at h
theorem am_fck_spec {own : String} {idx kd ci sl tg off wi : Nat} {x : List Nat} (h : am_fck own idx (kd :: ci :: sl :: tg :: off :: wi :: x) = true) :
    ∃ C T N, am_cls[ci]? = some (C, T, N) ∧ sl < N ∧ N = am_nf ci ∧ (T sl).1 = C ∧ am_ft ci sl = (kd, tg, off) ∧ ci < 8 ∧ kd ≤ 2 ∧ tg ≠ 8 ∧ Cond.fieldLink own idx C (T sl).2.1 (T sl).2.2.1 ∈ am_tbl := by
  unfold am_fck at h
  dsimp only at h
  split at h
  · rename_i C T N hc
    simp only [Bool.and_eq_true, decide_eq_true_eq] at h
    obtain ⟨⟨⟨⟨⟨⟨⟨h1, h2⟩, h3⟩, h4⟩, h5⟩, h6⟩, h7⟩, h8⟩ := h
    exact ⟨C, T, N, hc, h1, h2, h3, h4, h5, h6, h7, am_word_mem h8⟩
  · cases h
theorem am_fck_aux {own : String} {idx : Nat} {aux : List Nat} (h : am_fck own idx aux = true) : ∃ kd ci sl tg off wi x, aux = kd :: ci :: sl :: tg :: off :: wi :: x := by
  match aux, h with
  | kd :: ci :: sl :: tg :: off :: wi :: x, _ => exact ⟨kd, ci, sl, tg, off, wi, x, rfl⟩
theorem am_fv_set {b0 t a sl : Nat} {f : Nat → Int32} {x : Int32} {v : Value} (hv : am_fv b0 t a sl x = v) : ((List.range (am_nf t)).map (fun j => am_fv b0 t a j (f j))).set sl v = (List.range (am_nf t)).map (fun j => am_fv b0 t a j (upd f sl x j)) := by
  apply List.ext_getElem?
  intro i
  by_cases hi : i < am_nf t
  · by_cases e : sl = i
    · subst e
      rw [List.getElem?_set_self (by simpa using hi)]
      simp [hi, upd, hv]
    · rw [List.getElem?_set_ne e]
      have : i ≠ sl := fun q => e q.symm
      simp [hi, upd, this]
  · simp [hi]
theorem am_narO {C : String} {a : Nat} : narrow (.object C) (.ref a) = .ref a ∧ fits (.object C) (.ref a) = true := ⟨rfl, rfl⟩
theorem am_narA {t : FieldType} {a : Nat} : narrow (.array t) (.ref a) = .ref a ∧ fits (.array t) (.ref a) = true := ⟨rfl, rfl⟩
theorem am_cp1 : Cond.native arraycopyName ∈ am_tbl := am_word_mem (i := 701) (by decide +kernel)
theorem am_cp2 : Cond.static arraycopyName ∈ am_tbl := am_word_mem (i := 700) (by decide +kernel)
theorem am_cp3 : Cond.initialized "java/lang/System" ∈ am_tbl := am_word_mem (i := 76) (by decide +kernel)
theorem am_tsw {x : Int32} {dd pc : Nat} {tb : List am_W} {k : Nat → am_Z} {r : am_H × Option Int32} : ∀ (os : List Int) (v : Nat) (l : List Nat), am_tsk tb pc v os l = true → v + os.length ≤ 2 ^ 31 → am_sw x dd k l = some r →
    (∃ (j : Nat) (t : Nat) (o : Int), x.toInt = (v : Int) + j ∧ os[j]? = some o ∧ k t = some r ∧ am_pcI (am_drp t tb) ((pc : Int) + o) = true) ∨ ((x.toInt < (v : Int) ∨ (v : Int) + os.length ≤ x.toInt) ∧ k dd = some r) := by
  intro os
  induction os with
  | nil =>
    intro v l h hv hs
    match l, h, hs with
    | [], _, hs => exact Or.inr ⟨by simp; omega, hs⟩
  | cons o os ih =>
    intro v l h hv hs
    match l, h, hs with
    | v' :: t :: l, h, hs =>
      simp only [am_tsk, Bool.and_eq_true, beq_iff_eq] at h
      obtain ⟨⟨h1, h2⟩, h3⟩ := h
      subst h1
      have hlen : (o :: os).length = os.length + 1 := rfl
      have hv1 : v' < 2 ^ 31 := by omega
      unfold am_sw at hs
      split at hs
      · rename_i e
        refine Or.inl ⟨0, t, o, ?_, rfl, hs, h2⟩
        rw [e, nI_toInt hv1]
        simp
      · rename_i e
        rcases ih (v' + 1) l h3 (by omega) hs with ⟨j, t', o', a1, a2, a3, a4⟩ | ⟨a1, a2⟩
        · exact Or.inl ⟨j + 1, t', o', by rw [a1]; push_cast; omega, by simpa using a2, a3, a4⟩
        · refine Or.inr ⟨?_, a2⟩
          have hne : x.toInt ≠ (v' : Int) := by
            intro q
            apply e
            apply Int32.toInt.inj
            rw [q, nI_toInt hv1]
          push_cast at a1
          rw [hlen]
          push_cast
          omega
theorem am_lsw {x : Int32} {dd pc : Nat} {tb : List am_W} {k : Nat → am_Z} {r : am_H × Option Int32} {df : Int} (hd : am_pcI (am_drp dd tb) ((pc : Int) + df) = true) : ∀ (os : List (Int × Int)) (l : List Nat), am_lsk tb pc os l = true → am_sw x dd k l = some r →
    ∃ t : Nat, am_pcI (am_drp t tb) ((pc : Int) + Op.lookupswitch.offset os df x.toInt) = true ∧ k t = some r := by
  intro os
  induction os with
  | nil =>
    intro l h hs
    match l, h, hs with
    | [], _, hs => exact ⟨dd, hd, hs⟩
  | cons o os ih =>
    intro l h hs
    match o, l, h, hs with
    | (a, o), v :: t :: l, h, hs =>
      simp only [am_lsk, Bool.and_eq_true, decide_eq_true_eq] at h
      obtain ⟨⟨⟨h1, h0⟩, h2⟩, h3⟩ := h
      unfold am_sw at hs
      rw [Op.lookupswitch.offset_cons]
      split at hs
      · rename_i e
        have : a = x.toInt := by rw [e, nI_toInt h0, h1]
        rw [if_pos this]
        exact ⟨t, h2, hs⟩
      · rename_i e
        have : ¬ a = x.toInt := by
          intro q
          apply e
          apply Int32.toInt.inj
          rw [nI_toInt h0, ← q, h1]
        rw [if_neg this]
        exact ih l h3 hs
theorem am_ick_aux {mt : Nat → am_M} {own : String} {st : Bool} {idx : Nat} {aux : List Nat} (h : am_ick mt own st idx aux = true) : ∃ z n rv ci wi x, aux = z :: n :: rv :: ci :: wi :: x ∧ (mt z).2.2.2.2.1 = st ∧ (st = false → am_cls[ci]?.map (fun q => q.1) = some (mt z).1.cls) ∧ Cond.methodLink own idx (mt z).1 ∈ am_tbl ∧ (parseMethodDescriptor (mt z).1.desc).map (fun d => d.parameters.length) = some (if st then n else n - 1) ∧ (st = false → 0 < n) ∧ ((mt z).2.2.2.1 = none ↔ rv = 0) := by
  match aux, h with
  | z :: n :: rv :: ci :: wi :: x, h =>
    simp only [am_ick, Bool.and_eq_true, Bool.or_eq_true, decide_eq_true_eq] at h
    obtain ⟨⟨⟨⟨⟨h1, h2⟩, h3⟩, h4⟩, h5⟩, h6⟩ := h
    refine ⟨z, n, rv, ci, wi, x, rfl, h1, fun e => ?_, am_word_mem h3, h4, fun e => ?_, h6⟩
    · rw [e] at h2
      simpa using h2
    · rw [e] at h5
      simpa using h5
/-- what the table says of a method -/
theorem am_mck_spec {q : am_M} (h : am_mck q = true) : q.1.cls ≠ "java/lang/invoke/MethodHandle" ∧ q.1.cls ≠ "java/lang/invoke/VarHandle" ∧ q.2.2.1 ≤ 16 ∧ plainFor q.1 = true ∧ Cond.code q.1 q.2.1 q.2.2.1 q.2.2.2.1 ∈ am_tbl ∧ Cond.initialized q.1.cls ∈ am_tbl ∧ (q.2.2.2.2.1 = true → Cond.static q.1 ∈ am_tbl) ∧ (q.2.2.2.2.1 = false → Cond.instanceMethod q.1 ∈ am_tbl ∧ Cond.selects q.1.cls q.1 q.1 ∈ am_tbl) := by
  obtain ⟨y, bs, ml, rt, st, g⟩ := q
  simp only [am_mck, Bool.and_eq_true, decide_eq_true_eq] at h
  obtain ⟨⟨⟨⟨h1, h2⟩, h3⟩, h4⟩, h5⟩ := h
  split at h5
  · rename_i w0 w1 w2 w3 x
    simp only [Bool.and_eq_true] at h5
    obtain ⟨⟨h6, h7⟩, h8⟩ := h5
    refine ⟨h1, h2, h3, h4, am_word_mem h6, am_word_mem h7, fun e => ?_, fun e => ?_⟩
    · have e : st = true := e
      subst e
      exact am_word_mem h8
    · have e : st = false := e
      subst e
      simp only [Bool.false_eq_true, if_false, Bool.and_eq_true] at h8
      exact ⟨am_word_mem h8.1, am_word_mem h8.2⟩
  · cases h5
section SIM
variable {p : Program} {l : Launch} {e : Env} {R : Room} {s : State} {m : MethodId} {args : Array Value} {below : List Frame} {meth : Method} {c : Code} {cells slots : Nat} {Q : State → Prop}
variable {mt : Nat → am_M} {own : String} {cc : ByteArray} {tb : List am_W} {nL b0 bS nC L d : Nat} {xs : Nat → Int32} {D : va_G} {cI cH : ClassId} {sc : Prop} {rt : Option FieldType} {G : Nat → List am_V → am_H → am_Z}
variable {ls : am_L} {st : List am_V} {h : am_H} {sl : Array Slot} {H : Heap} {locs : List Loc} {Z : am_H × Option Int32} {n : Nat} {k : am_L → List am_V → am_H → am_Z} {pc idx : Nat} {aux : List Nat}
/-- getfield -/
theorem am_sget (C : am_Cx p s m args c R mt own cc tb nL b0 bS nC L d xs D cI cH sc rt) (hN : am_Nx p l e R s m args below meth c cells slots Q nL b0 bS nC D cI cH sc (pc + 3) k Z) (hd : decode cc pc = .ok (.getfield idx, 3)) (hf : am_fck own idx aux = true) {nx : List am_W → am_L → List am_V → am_H → am_Z} {rest : List am_W} (hk : nx rest = k)
    (hE : am_get nx aux rest ls st h = some Z) (S : am_S s nL b0 bS nC D cI cH sc ls st h sl H locs) : W p l e R s m args below meth c H locs cells slots Q (F0 m pc sl (st.map (am_cv b0 bS))) := by
  obtain ⟨hx, hb, hml, hown, hts, hK, hchk, hclo, hnC, hroom, hsc, hmt⟩ := C
  obtain ⟨kd, ci, sl', tg, off, wi, x, rfl⟩ := am_fck_aux hf
  obtain ⟨Cn, T, N, hc, h1, h2, h3, h4, h5, h6, h7, h8⟩ := am_fck_spec hf
  obtain ⟨t, o, r, rfl, hE1⟩ := am_pa_some hE
  obtain ⟨rfl, hE2⟩ := am_if_some hE1
  subst hk
  have ht8 : t ≠ 8 := by omega
  obtain ⟨ho, hct⟩ := am_obj (h := h) S.hd ht8
  have hst : (vr t o :: r).map (am_cv b0 bS) = .ref (b0 + o) :: r.map (am_cv b0 bS) := by simp [am_cv, ht8]
  rw [hst]
  obtain ⟨hin, -⟩ := am_cin hc
  refine va_get (v := am_fv b0 t o sl' (h o sl')) hx hb hts hin hown hK S.2.2.2.1 o (am_at_obj ho hct h5) hc sl' h1 (hts _ h8) (fun x hx => by rw [h3] at hx; exact hx) (by simp [← h2, h1]) hd ?_
  match kd, h4, h6, hE2 with
  | 0, h4, _, hE =>
    have : am_fv b0 t o sl' (h o sl') = .int (h o sl') := by simp [am_fv, h4]
    rw [this]
    exact hN _ _ _ _ _ _ hE (S.tl.ps trivial)
  | 1, h4, _, hE =>
    have : am_fv b0 t o sl' (h o sl') = am_cv b0 bS (vr tg (o + off)) := by simp [am_fv, h4, am_cv, h7]
    rw [this]
    have hcl := am_clo_of hclo ho (by rw [hct]; exact h5) (j := sl') (by rw [hct, ← h2]; exact h1) (by rw [hct]; exact h4)
    exact hN _ _ _ _ _ _ hE (S.tl.ps (by simpa [am_ok, h7] using hcl))
  | 2, h4, _, hE =>
    have : am_fv b0 t o sl' (h o sl') = am_cv b0 bS (vr tg (h o sl').toNatClampNeg) := by simp [am_fv, h4, am_cv, h7]
    rw [this]
    have hcl := S.2.2.2.2.1 o ho (by rw [hct]; exact h5) sl' (by rw [hct, ← h2]; exact h1) _ _ (by rw [hct]; exact h4)
    exact hN _ _ _ _ _ _ hE (S.tl.ps (by simpa [am_ok, h7] using hcl))
  | kd + 3, _, h6, _ => omega
/-- putfield -/
theorem am_sput (C : am_Cx p s m args c R mt own cc tb nL b0 bS nC L d xs D cI cH sc rt) (hN : am_Nx p l e R s m args below meth c cells slots Q nL b0 bS nC D cI cH sc (pc + 3) k Z) (hd : decode cc pc = .ok (.putfield idx, 3)) (hf : am_fck own idx aux = true) (hp : am_pck aux = true) {nx : List am_W → am_L → List am_V → am_H → am_Z} {rest : List am_W} (hk : nx rest = k)
    (hE : am_put nx aux rest ls st h = some Z) (S : am_S s nL b0 bS nC D cI cH sc ls st h sl H locs) : W p l e R s m args below meth c H locs cells slots Q (F0 m pc sl (st.map (am_cv b0 bS))) := by
  obtain ⟨hx, hb, hml, hown, hts, hK, hchk, hclo, hnC, hroom, hsc, hmt⟩ := C
  obtain ⟨kd, ci, sl', tg, off, wi, x, rfl⟩ := am_fck_aux hf
  obtain ⟨Cn, T, N, hc, h1, h2, h3, h4, h5, h6, h7, h8⟩ := am_fck_spec hf
  subst hk
  obtain ⟨hin, y0, hy0, hnm⟩ := am_cin hc
  unfold am_pck at hp
  dsimp only at hp
  rw [hc] at hp
  dsimp only at hp
  simp only [Bool.and_eq_true, decide_eq_true_eq] at hp
  obtain ⟨hfin, hp⟩ := hp
  match kd, h4, h6, hE, hp with
  | 0, h4, _, hE, hp =>
    obtain ⟨x, r, rfl, hE1⟩ := am_pi_some hE
    obtain ⟨t, o, r, rfl, hE2⟩ := am_pa_some hE1
    obtain ⟨rfl, hE3⟩ := am_if_some hE2
    have ht8 : t ≠ 8 := by omega
    obtain ⟨ho, hct⟩ := am_obj (h := h) S.tl.hd ht8
    have hst : (vi x :: vr t o :: r).map (am_cv b0 bS) = .int x :: .ref (b0 + o) :: r.map (am_cv b0 bS) := by simp [am_cv, ht8]
    rw [hst]
    refine va_put (v := .int x) (ty := .int) hx hb hts hin y0 hy0 hnm hown hK S.2.2.2.1 (am_w_D b0 cI cH nC h) S.2.2.2.2.2 o (am_at_obj ho hct h5) hc sl' h1 (hts _ h8) (fun x hx => by rw [h3] at hx; exact hx) hfin (of_decide_eq_true hp) rfl rfl (by simp [← h2, h1]) hd (fun H1 locs1 hP1 hD1 hS1 => ?_)
    refine hN _ _ _ _ _ _ hE3 (am_S.wr S.tl.tl (f := upd (h o) sl' x) ?_ hP1 (am_wf_int S.2.2.2.2.1 (by rw [hct, h4]; intro t off q; cases q)) hS1)
    simp only [am_en, hct, h5, if_true]
    rw [am_fv_set (x := x) (by simp [am_fv, h4])]
  | 1, _, _, hE, _ => cases hE
  | 2, h4, _, hE, hp =>
    obtain ⟨t', a, r, rfl, hE4⟩ := am_pa_some hE
    obtain ⟨t, o, r, rfl, hE5⟩ := am_pa_some hE4
    obtain ⟨rfl, hE6⟩ := am_if_some hE5
    obtain ⟨rfl, hE7⟩ := am_if_some hE6
    have ht8 : t ≠ 8 := by omega
    obtain ⟨ho, hct⟩ := am_obj (h := h) S.tl.hd ht8
    obtain ⟨ha, hca⟩ := am_obj (h := h) S.hd h7
    have hst : (vr t' a :: vr t o :: r).map (am_cv b0 bS) = .ref (b0 + a) :: .ref (b0 + o) :: r.map (am_cv b0 bS) := by simp [am_cv, ht8, h7]
    rw [hst]
    have ha31 : a < 2 ^ 31 := by omega
    obtain ⟨ty, hty, hn, hfi⟩ : ∃ ty, parseFieldDescriptor (T sl').2.2.1 = some ty ∧ narrow ty (.ref (b0 + a)) = .ref (b0 + a) ∧ fits ty (.ref (b0 + a)) = true := by
      have hp : (match parseFieldDescriptor (T sl').2.2.1 with
        | some (.object _) => true
        | some (.array _) => true
        | _ => false) = true := hp
      split at hp
      · rename_i ty hty; exact ⟨_, hty, rfl, rfl⟩
      · rename_i ty hty; exact ⟨_, hty, rfl, rfl⟩
      · cases hp
    refine va_put (v := .ref (b0 + a)) (ty := ty) hx hb hts hin y0 hy0 hnm hown hK S.2.2.2.1 (am_w_D b0 cI cH nC h) S.2.2.2.2.2 o (am_at_obj ho hct h5) hc sl' h1 (hts _ h8) (fun x hx => by rw [h3] at hx; exact hx) hfin hty hn hfi (by simp [← h2, h1]) hd (fun H1 locs1 hP1 hD1 hS1 => ?_)
    refine hN _ _ _ _ _ _ hE7 (am_S.wr S.tl.tl (f := upd (h o) sl' (nI a)) ?_ hP1 (am_wf_ref S.2.2.2.2.1 (by rw [hct]; exact h4) ha ha31 hca) hS1)
    simp only [am_en, hct, h5, if_true]
    rw [am_fv_set (x := nI a) (by simp [am_fv, h4, nI_clamp ha31])]
  | kd + 3, _, h6, _, _ => omega
/-- the copy of a row -/
theorem am_scpy (C : am_Cx p s m args c R mt own cc tb nL b0 bS nC L d xs D cI cH sc rt) (hN : am_Nx p l e R s m args below meth c cells slots Q nL b0 bS nC D cI cH sc (pc + 3) k Z) (hd : decode cc pc = .ok (.invokestatic idx, 3)) (hw : Cond.methodLink own idx arraycopyName ∈ am_tbl) {nx : List am_W → am_L → List am_V → am_H → am_Z} {rest : List am_W} (hk : nx rest = k)
    (hE : am_cpy nx rest ls st h = some Z) (S : am_S s nL b0 bS nC D cI cH sc ls st h sl H locs) : W p l e R s m args below meth c H locs cells slots Q (F0 m pc sl (st.map (am_cv b0 bS))) := by
  obtain ⟨hx, hb, hml, hown, hts, hK, hchk, hclo, hnC, hroom, hsc, hmt⟩ := C
  subst hk
  obtain ⟨n, r, rfl, hE1⟩ := am_pi_some hE
  obtain ⟨dp, r, rfl, hE2⟩ := am_pi_some hE1
  obtain ⟨t1, a1, r, rfl, hE3⟩ := am_pa_some hE2
  obtain ⟨sp, r, rfl, hE4⟩ := am_pi_some hE3
  obtain ⟨t0, a0, r, rfl, hE5⟩ := am_pa_some hE4
  obtain ⟨ht0, hE6⟩ := am_ifn_some hE5
  obtain ⟨ht1, hE7⟩ := am_ifn_some hE6
  obtain ⟨hcat, hE8⟩ := am_ifn_some hE7
  obtain ⟨hin, hE9⟩ := am_ifn_some hE8
  have e0 : t0 ≠ 8 := by omega
  have e1 : t1 ≠ 8 := by omega
  obtain ⟨ho0, hc0⟩ := am_obj (h := h) S.tl.tl.tl.tl.hd e0
  obtain ⟨ho1, hc1⟩ := am_obj (h := h) S.tl.tl.hd e1
  have hst : (vi n :: vi dp :: vr t1 a1 :: vi sp :: vr t0 a0 :: r).map (am_cv b0 bS) = .int n :: .int dp :: .ref (b0 + a1) :: .int sp :: .ref (b0 + a0) :: r.map (am_cv b0 bS) := by simp [am_cv, e0, e1]
  rw [hst]
  simp only [not_or, Nat.not_lt] at hin
  obtain ⟨i1, i2, i3, i4, i5⟩ := hin
  refine va_copyi (ty := .int) hx hb (hml.trans S.1.2.1.symm) hown (hts _ hw) (hts _ am_cp1) (hts _ am_cp2) (hts _ am_cp3) hK S.2.2.2.1 (am_w_D b0 cI cH nC h) S.2.2.2.2.2 a0 a1 0 0 (am_at_int ho0 hc0 (by omega)) (am_at_int ho1 hc1 (by omega)) rfl rfl rfl i1 i2 i3 i4 i5 (fun _ _ => rfl) (by omega) ?_ hd (fun H1 locs1 hP1 hD1 hS1 => ?_)
  · have hq := am_cats_sum b0 bS r
    have hq2 : (List.map (fun v => Value.category v) (List.map (am_cv b0 bS) r)).sum = am_cats r := hq
    have hnw : nativeFrameWords "java/lang/System" "arraycopy" 5 = 7 := by decide
    rw [hq2, hnw]
    omega
  · refine hN _ _ _ _ _ _ hE9 (am_S.wr S.tl.tl.tl.tl.tl (f := va_cpy (h a0) (h a1) sp.toNatClampNeg dp.toNatClampNeg n.toNatClampNeg) (am_en_int hc1 (by omega) _) hP1 (am_wf_arr S.2.2.2.2.1 (by omega)) hS1)
/-- what comes back from a call -/
theorem am_back {h' : am_H} {r' : Option Int32} {st0 rest : List am_V} {a : Array Value} (hr : va_Run p l e R s m args below meth c H locs cells slots 0 0 (F0 m pc sl (st0.map (am_cv b0 bS))) (rest.map (am_cv b0 bS)) (am_Qc b0 nC D cI cH h' r' a) (am_A b0)) (S : am_S s nL b0 bS nC D cI cH sc ls rest h sl H locs)
    (hN : am_Nx p l e R s m args below meth c cells slots Q nL b0 bS nC D cI cH sc (pc + 3) k Z) (hk : k ls (match r' with | some x => vi x :: rest | none => rest) h' = some Z) : W p l e R s m args below meth c H locs cells slots Q (F0 m pc sl (st0.map (am_cv b0 bS))) := by
  match r', hr, hk with
  | some v, hr, hk =>
    refine va_calli (a := a) (A0 := am_A b0) (H0 := s.heap) hr S.2.2.2.2.2 (fun _ _ h => h) (fun _ h => h) (fun r u t H1 locs1 ht hvm hp hB hz hq hS1 => ?_)
    obtain ⟨rfl, hwf⟩ := hp
    refine hN _ _ _ _ _ _ hk ⟨S.1, S.2.1, ?_, by rw [← ht]; exact hB, hwf, hS1⟩
    intro w hw
    rcases List.mem_cons.mp hw with rfl | hw
    · trivial
    · exact S.2.2.1 w hw
  | none, hr, hk =>
    refine va_callv (a := a) (A0 := am_A b0) (H0 := s.heap) hr S.2.2.2.2.2 (fun _ _ h => h) (fun _ h => h) (fun u t H1 locs1 ht hvm hp hB hz hq hS1 => ?_)
    exact hN _ _ _ _ _ _ hk ⟨S.1, S.2.1, S.2.2.1, by rw [← ht]; exact hB, hp, hS1⟩
theorem am_blind {as : List am_V} : FrameBlind (am_Pc b0 nC D cI cH as h) := fun a U g mk q => ⟨q.1, q.2.1, va_K.moved (u := U) (U := U.calling g mk a) (Vm.Alike.refl U.vm) q.2.2⟩
/-- a call -/
theorem am_sinv (C : am_Cx p s m args c R mt own cc tb nL b0 bS nC L d xs D cI cH sc rt) (hG : am_GO l mt b0 nC D cI cH d G) (hcs : cells ≤ R.cells ∧ slots ≤ R.slots) (hN : am_Nx p l e R s m args below meth c cells slots Q nL b0 bS nC D cI cH sc (pc + 3) k Z) (v : Bool) (hd : decode cc pc = .ok (if v then .invokevirtual idx else .invokestatic idx, 3)) (hi : am_ick mt own (!v) idx aux = true) {nx : List am_W → am_L → List am_V → am_H → am_Z} {rest : List am_W} (hk : nx rest = k)
    (hE : am_inv G nx v aux rest ls st h = some Z) (S : am_S s nL b0 bS nC D cI cH sc ls st h sl H locs) : W p l e R s m args below meth c H locs cells slots Q (F0 m pc sl (st.map (am_cv b0 bS))) := by
  have C0 := C
  obtain ⟨hx, hb, hml, hown, hts, hK, hchk, hclo, hnC, hroom, hsc, hmt⟩ := C
  subst hk
  obtain ⟨z, n, rv, ci, wi, x, rfl, i1, i2, i3, i4, i5, i6⟩ := am_ick_aux hi
  obtain ⟨ts, r, rfl, hlen, hE1⟩ := am_tk_some hE
  obtain ⟨hcat, hE2⟩ := am_ifn_some hE1
  obtain ⟨hn8, hE3⟩ := am_ifn_some hE2
  have hn8 : am_n8 (ts.reverse ++ []) = true := by simpa using hn8
  rw [List.append_nil] at hn8 hE3
  obtain ⟨m1, m2, m3, m4, m5, m6, m7, m8⟩ := am_mck_spec (hmt z)
  have hok : ∀ v ∈ ts.reverse, am_ok nC sc v := fun v hv => S.2.2.1 v (List.mem_append_left _ (List.mem_reverse.mp hv))
  have hok0 := am_n8_ok hn8 hok
  have Sr : am_S s nL b0 bS nC D cI cH sc ls r h sl H locs := S.stk fun w hw => S.2.2.1 w (List.mem_append_right _ hw)
  have hW : 2 * (F0 m pc sl ((ts ++ r).map (am_cv b0 bS))).monitorRoom + ((r.map (am_cv b0 bS)).map fun v => v.category).sum ≤ 8 := lv_room (by rw [am_cats_sum]; omega)
  have hws : ∀ w ∈ am_mw mt z, w ∈ am_tbl := fun w hw => (List.mem_cons.mp hw).elim (fun e => e ▸ m5) id
  have hR : (am_rm d).frames + 1 ≤ R.frames ∧ 8 + ((mt z).2.2.1 + 11) + (am_rm d).locals ≤ R.locals := by
    refine ⟨hroom.1, ?_⟩
    show 8 + ((mt z).2.2.1 + 11) + 35 * d ≤ R.locals
    omega
  have hpre : ∀ U : State, U.heap = H → s.WarmedH U.vm → am_Pc b0 nC D cI cH ts.reverse h (ts.reverse.map (am_cv b0 bS)).toArray U := fun U hU hWm => ⟨by rw [am_n8_cv hn8], by rw [hU]; exact S.2.2.2.1, va_K.moved hWm.alike hK⟩
  -- the answer
  have key : ∀ rv : Nat, (match rv with
      | 0 => am_r0 (G z ts.reverse h) fun h => nx rest ls r h
      | _ => am_r1 (G z ts.reverse h) fun h x => nx rest ls (vi x :: r) h) = some Z → ∃ h' r', G z ts.reverse h = some (h', r') ∧ nx rest ls (match r' with | some x => vi x :: r | none => r) h' = some Z := by
    intro rv hq
    cases rv with
    | zero => obtain ⟨h', a1, a2⟩ := am_r0_some hq; exact ⟨h', none, a1, a2⟩
    | succ rv => obtain ⟨h', x, a1, a2⟩ := am_r1_some hq; exact ⟨h', some x, a1, a2⟩
  obtain ⟨h', r', hGz, hk⟩ := key rv (am_rcv_any hE3)
  have hM := hG z ts.reverse h h' r' hGz hok0 S.2.2.2.2.1
  have hCB : CallB R s args own idx (mt z).1 (mt z).2.1 (mt z).2.2.1 (mt z).2.2.2.1 (am_mw mt z) (am_rm d) 0 0 (if (!v) then n else n - 1) :=
    callB_of (Ts := am_tbl) (ws := am_mw mt z) (if (!v) then n else n - 1) hts (am_goodIn (fun w h => h) hws) rfl rfl rfl (hts _ m6) (hts _ i3) ⟨m1, m2, i4⟩ hR
  have hf : cells + 0 ≤ R.cells ∧ slots + 0 ≤ R.slots := hcs
  match v, hE3, hd, i1, i2, i5, hCB with
  | false, hE, hd, i1, i2, i5, hCB =>
    have hrun := va_runS (p := p) (e := e) (below := below) (meth := meth) (H := H) (locs := locs) (cells := cells) (slots := slots) (Ts := am_tbl) (g := F0 m pc sl ((ts ++ r).map (am_cv b0 bS))) (As := ts.reverse.map (am_cv b0 bS)) (rest := r.map (am_cv b0 bS)) ⟨hx, hb, hml, hown, hts⟩ hM ⟨hCB, hts _ (m7 i1)⟩ ⟨am_blind, hpre⟩ rfl (by simp [hlen]) S.1.2.1 (by simp [List.map_reverse]) hW hd hf
    exact am_back hrun Sr hN hk
  | true, hE, hd, i1, i2, i5, hCB =>
    obtain ⟨a, as, htr, -⟩ := am_rcv_some hE
    have hcl := i2 rfl
    obtain ⟨q, hq, hq1⟩ := Option.map_eq_some_iff.mp hcl
    have ht8 : ci < 8 := by
      have := (List.getElem?_eq_some_iff.mp hq).1
      simpa [am_cls] using this
    have hne : ci ≠ 8 := by omega
    have hrok : am_ok nC sc (vr ci a) := hok _ (by rw [htr]; exact List.mem_cons_self)
    obtain ⟨ha, hct⟩ := am_obj (h := h) hrok hne
    have hts' : ts = as.reverse ++ [vr ci a] := by
      have := congrArg List.reverse htr
      simpa using this
    have hrv := va_recv hK S.2.2.2.1 hq (am_at_obj ha hct ht8)
    rw [hq1] at hrv
    have hcv : ts.reverse.map (am_cv b0 bS) = .ref (b0 + a) :: as.map (am_cv b0 bS) := by
      rw [htr]
      simp [am_cv, hne]
    rw [hcv] at hpre
    have hrun := va_runV (p := p) (e := e) (below := below) (meth := meth) (H := H) (locs := locs) (cells := cells) (slots := slots) (Ts := am_tbl) (g := F0 m pc sl ((ts ++ r).map (am_cv b0 bS))) (b := b0 + a) (As := as.map (am_cv b0 bS)) (rest := r.map (am_cv b0 bS)) ⟨hx, hb, hml, hown, hts⟩ hM ⟨hCB, hts _ (m8 i1).1, hts _ (m8 i1).2⟩ ⟨am_blind, hrv, hpre⟩ rfl (by rw [hts'] at hlen; simp at hlen; simp; omega) S.1.2.1 (by rw [hts']; simp [List.map_reverse, am_cv, hne]) hW hd hf
    exact am_back hrun Sr hN hk
end SIM
end
section
theorem and2 {a b : Bool} (h : (a && b) = true) : a = true ∧ b = true := by simpa using h
theorem am_ipos {c : Prop} [Decidable c] {x y : am_Z} {Z : am_H × Option Int32} (hc : c) (h : (if c then x else y) = some Z) : x = some Z := by rwa [if_pos hc] at h
theorem am_ineg {c : Prop} [Decidable c] {x y : am_Z} {Z : am_H × Option Int32} (hc : ¬ c) (h : (if c then x else y) = some Z) : y = some Z := by rwa [if_neg hc] at h
theorem am_nlt {a b : Int32} (h : b ≤ a) : ¬ a < b := Int32.not_lt.mpr h
theorem am_nle {a b : Int32} (h : ¬ b ≤ a) : a < b := Int32.not_le.mp h
theorem am_is1 {mt : Nat → am_M} {own : String} {i : Nat} {aux : List Nat} (h : (match aux with
    | 999 :: wi :: _ => am_word wi (.methodLink own i arraycopyName)
    | _ => am_ick mt own true i aux) = true) (h9 : ¬ ∃ wi x, aux = 999 :: wi :: x) : am_ick mt own true i aux = true := by
  split at h
  · rename_i wi x; exact absurd ⟨wi, x, rfl⟩ h9
  · exact h
theorem am_is2 {mt : Nat → am_M} {own : String} {i : Nat} {aux : List Nat} {G : Nat → List am_V → am_H → am_Z} {nx : List am_W → am_L → List am_V → am_H → am_Z} {rest : List am_W} {ls : am_L} {st : List am_V} {h : am_H} {Z : am_H × Option Int32} (hE : (match aux with
    | 999 :: _ => am_cpy nx rest ls st h
    | _ => am_inv G nx false aux rest ls st h) = some Z) (h9 : ¬ ∃ wi x, aux = 999 :: wi :: x) (hi : am_ick mt own true i aux = true) : am_inv G nx false aux rest ls st h = some Z := by
  obtain ⟨z, n, rv, ci, wi, x, he, -⟩ := am_ick_aux hi
  split at hE
  · rename_i y
    cases he
    exact absurd ⟨n, _, rfl⟩ h9
  · exact hE
section SIM
variable {p : Program} {l : Launch} {e : Env} {R : Room} {s : State} {m : MethodId} {args : Array Value} {below : List Frame} {meth : Method} {c : Code} {cells slots : Nat} {Q : State → Prop}
variable {mt : Nat → am_M} {own : String} {cc : ByteArray} {tb : List am_W} {nL b0 bS nC L d : Nat} {xs : Nat → Int32} {D : va_G} {cI cH : ClassId} {sc : Prop} {rt : Option FieldType} {G : Nat → List am_V → am_H → am_Z}
/-- the ends -/
def am_Zi (p : Program) (l : Launch) (e : Env) (R : Room) (s : State) (m : MethodId) (args : Array Value) (below : List Frame) (meth : Method) (c : Code) (cells slots : Nat) (Q : State → Prop) (cc : ByteArray) (nL b0 bS nC : Nat) (D : va_G) (cI cH : ClassId) (sc : Prop) (rt : Option FieldType) (ls : am_L) (Z : am_H × Option Int32) : Prop :=
  ∀ (v : Int32) (h : am_H) (sl : Array Slot) (H : Heap) (locs : List Loc) (pc : Nat), decode cc pc = .ok (.ireturn, 1) → (rt = some .int ∨ rt = some .boolean ∧ v &&& 1 = v) → Z = (h, some v) → am_S s nL b0 bS nC D cI cH sc ls [vi v] h sl H locs → W p l e R s m args below meth c H locs cells slots Q (F0 m pc sl [.int v])
def am_Zv (p : Program) (l : Launch) (e : Env) (R : Room) (s : State) (m : MethodId) (args : Array Value) (below : List Frame) (meth : Method) (c : Code) (cells slots : Nat) (Q : State → Prop) (cc : ByteArray) (nL b0 bS nC : Nat) (D : va_G) (cI cH : ClassId) (sc : Prop) (rt : Option FieldType) (ls : am_L) (Z : am_H × Option Int32) : Prop :=
  ∀ (h : am_H) (sl : Array Slot) (H : Heap) (locs : List Loc) (pc : Nat), decode cc pc = .ok (.return_, 1) → rt = none → Z = (h, none) → am_S s nL b0 bS nC D cI cH sc ls [] h sl H locs → W p l e R s m args below meth c H locs cells slots Q (F0 m pc sl [])
set_option maxHeartbeats 4000000 in
set_option maxRecDepth 10000 in
/-- ONE ROW -/
theorem am_step {nx : List am_W → am_L → List am_V → am_H → am_Z} {rc : Nat → am_L → am_H → am_Z} {Z : am_H × Option Int32} (C : am_Cx p s m args c R mt own cc tb nL b0 bS nC L d xs D cI cH sc rt) (hG : am_GO l mt b0 nC D cI cH d G) (hcs : cells ≤ R.cells ∧ slots ≤ R.slots)
    (hN : ∀ i : Nat, am_Nx p l e R s m args below meth c cells slots Q nL b0 bS nC D cI cH sc (am_pc (am_drp i tb)) (nx (am_drp i tb)) Z)
    (hR : ∀ i : Nat, am_Nx p l e R s m args below meth c cells slots Q nL b0 bS nC D cI cH sc (am_pc (am_drp i tb)) (fun ls st h => match st with | [] => rc i ls h | _ => none) Z)
    (hZi : ∀ ls, am_Zi p l e R s m args below meth c cells slots Q cc nL b0 bS nC D cI cH sc rt ls Z) (hZv : ∀ ls, am_Zv p l e R s m args below meth c cells slots Q cc nL b0 bS nC D cI cH sc rt ls Z)
    {i pc len : Nat} {ins : Instr} {aux : List Nat} {q : Int32} {rest : List am_W} (hrow : am_drp i tb = (pc, len, ins, aux, q) :: rest) : am_Nx p l e R s m args below meth c cells slots Q nL b0 bS nC D cI cH sc pc (am_ex L xs tb G rc nx ins aux q rest) Z := by
  intro ls st h sl H locs hE S
  have hZi := hZi ls
  have hZv := hZv ls
  obtain ⟨hx, hb, hml, hown, hts, hK, hchk, hclo, hnC, hroom, hsc, hmt⟩ := id C
  have hrest : rest = am_drp (i + 1) tb := am_drp_succ hrow
  have hc1 : am_chk mt own cc tb nL rt (pc, len, ins, aux, q) rest = true := by
    have := am_chks_drp i tb hchk
    rw [hrow] at this
    exact (and2 this).1
  have fin : ∀ (n : Nat) (ls : am_L) (st : List am_V) (h : am_H) (sl : Array Slot) (H : Heap) (locs : List Loc), am_pcI rest ((n : Nat) : Int) = true → nx rest ls st h = some Z → am_S s nL b0 bS nC D cI cH sc ls st h sl H locs → W p l e R s m args below meth c H locs cells slots Q (F0 m n sl (st.map (am_cv b0 bS))) := by
    intro n ls st h sl H locs h1 h2 h3
    rw [← am_nxt h1, hrest]
    rw [hrest] at h2
    exact hN (i + 1) ls st h sl H locs h2 h3
  cases ins with
  | iadd =>
    obtain ⟨hd, hck⟩ := am_split1 hc1 (by intro q; cases q) rfl
    obtain ⟨a, b, r, rfl, hE1⟩ := am_2_some hE
    exact lv_iadd hx hb hd (fin (pc + 1) _ _ _ _ _ _ hck hE1 (S.tl.tl.ps trivial))
  | isub =>
    obtain ⟨hd, hck⟩ := am_split1 hc1 (by intro q; cases q) rfl
    obtain ⟨a, b, r, rfl, hE2⟩ := am_2_some hE
    exact lv_isub hx hb hd (fin (pc + 1) _ _ _ _ _ _ hck hE2 (S.tl.tl.ps trivial))
  | imul =>
    obtain ⟨hd, hck⟩ := am_split1 hc1 (by intro q; cases q) rfl
    obtain ⟨a, b, r, rfl, hE3⟩ := am_2_some hE
    exact lv_imul hx hb hd (fin (pc + 1) _ _ _ _ _ _ hck hE3 (S.tl.tl.ps trivial))
  | iand =>
    obtain ⟨hd, hck⟩ := am_split1 hc1 (by intro q; cases q) rfl
    obtain ⟨a, b, r, rfl, hE4⟩ := am_2_some hE
    exact lv_iand hx hb hd (fin (pc + 1) _ _ _ _ _ _ hck hE4 (S.tl.tl.ps trivial))
  | ior =>
    obtain ⟨hd, hck⟩ := am_split1 hc1 (by intro q; cases q) rfl
    obtain ⟨a, b, r, rfl, hE5⟩ := am_2_some hE
    exact lv_ior hx hb hd (fin (pc + 1) _ _ _ _ _ _ hck hE5 (S.tl.tl.ps trivial))
  | ixor =>
    obtain ⟨hd, hck⟩ := am_split1 hc1 (by intro q; cases q) rfl
    obtain ⟨a, b, r, rfl, hE6⟩ := am_2_some hE
    exact lv_ixor hx hb hd (fin (pc + 1) _ _ _ _ _ _ hck hE6 (S.tl.tl.ps trivial))
  | ishl =>
    obtain ⟨hd, hck⟩ := am_split1 hc1 (by intro q; cases q) rfl
    obtain ⟨a, b, r, rfl, hE7⟩ := am_2_some hE
    exact lv_ishl hx hb hd (fin (pc + 1) _ _ _ _ _ _ hck hE7 (S.tl.tl.ps trivial))
  | ishr =>
    obtain ⟨hd, hck⟩ := am_split1 hc1 (by intro q; cases q) rfl
    obtain ⟨a, b, r, rfl, hE8⟩ := am_2_some hE
    exact lv_ishr hx hb hd (fin (pc + 1) _ _ _ _ _ _ hck hE8 (S.tl.tl.ps trivial))
  | iushr =>
    obtain ⟨hd, hck⟩ := am_split1 hc1 (by intro q; cases q) rfl
    obtain ⟨a, b, r, rfl, hE9⟩ := am_2_some hE
    exact lv_iushr (v := am_ush a b) hx hb hd rfl (fin (pc + 1) _ _ _ _ _ _ hck hE9 (S.tl.tl.ps trivial))
  | idiv =>
    obtain ⟨hd, hck⟩ := am_split1 hc1 (by intro q; cases q) rfl
    obtain ⟨a, b, r, rfl, hE10⟩ := am_2_some hE
    obtain ⟨hb0, hE11⟩ := am_ifn_some hE10
    exact lv_idiv hx hb hd hb0 (fin (pc + 1) _ _ _ _ _ _ hck hE11 (S.tl.tl.ps trivial))
  | irem =>
    obtain ⟨hd, hck⟩ := am_split1 hc1 (by intro q; cases q) rfl
    obtain ⟨a, b, r, rfl, hE12⟩ := am_2_some hE
    obtain ⟨hb0, hE13⟩ := am_ifn_some hE12
    exact lv_irem hx hb hd hb0 (fin (pc + 1) _ _ _ _ _ _ hck hE13 (S.tl.tl.ps trivial))
  | ineg =>
    obtain ⟨hd, hck⟩ := am_split1 hc1 (by intro q; cases q) rfl
    obtain ⟨a, r, rfl, hE14⟩ := am_pi_some hE
    exact lv_ineg hx hb hd (fin (pc + 1) _ _ _ _ _ _ hck hE14 (S.tl.ps trivial))
  | i2c =>
    obtain ⟨hd, hck⟩ := am_split1 hc1 (by intro q; cases q) rfl
    obtain ⟨a, r, rfl, hE15⟩ := am_pi_some hE
    exact lv_i2c (v := am_i2c a) hx hb hd rfl (fin (pc + 1) _ _ _ _ _ _ hck hE15 (S.tl.ps trivial))
  | i2l =>
    obtain ⟨hd, hck⟩ := am_split1 hc1 (by intro q; cases q) rfl
    obtain ⟨a, r, rfl, hE16⟩ := am_pi_some hE
    exact lv_i2l hx hb hd rfl (fin (pc + 1) _ _ _ _ _ _ hck hE16 (S.tl.ps trivial))
  | l2i =>
    obtain ⟨hd, hck⟩ := am_split1 hc1 (by intro q; cases q) rfl
    obtain ⟨a, r, rfl, hE17⟩ := am_pl_some hE
    exact lv_l2i hx hb hd rfl (fin (pc + 1) _ _ _ _ _ _ hck hE17 (S.tl.ps trivial))
  | ladd =>
    obtain ⟨hd, hck⟩ := am_split1 hc1 (by intro q; cases q) rfl
    obtain ⟨a, b, r, rfl, hE18⟩ := am_2l_some hE
    exact lv_ladd hx hb hd (fin (pc + 1) _ _ _ _ _ _ hck hE18 (S.tl.tl.ps trivial))
  | lmul =>
    obtain ⟨hd, hck⟩ := am_split1 hc1 (by intro q; cases q) rfl
    obtain ⟨a, b, r, rfl, hE19⟩ := am_2l_some hE
    exact lv_lmul hx hb hd (fin (pc + 1) _ _ _ _ _ _ hck hE19 (S.tl.tl.ps trivial))
  | lcmp =>
    obtain ⟨hd, hck⟩ := am_split1 hc1 (by intro q; cases q) rfl
    obtain ⟨a, b, r, rfl, hE20⟩ := am_2l_some hE
    exact W.lcmp hx hb hd (fin (pc + 1) _ _ _ _ _ _ hck hE20 (S.tl.tl.ps trivial))
  | lrem =>
    obtain ⟨hd, hck⟩ := am_split1 hc1 (by intro q; cases q) rfl
    obtain ⟨a, b, r, rfl, hE21⟩ := am_2l_some hE
    obtain ⟨hb0, hE22⟩ := am_ifn_some hE21
    exact lv_lrem hx hb hd hb0 (fin (pc + 1) _ _ _ _ _ _ hck hE22 (S.tl.tl.ps trivial))
  | iload_n i =>
    obtain ⟨hd, hck⟩ := am_split1 hc1 (by intro q; cases q) rfl
    obtain ⟨x, hi, hE23⟩ := am_ldi_some hE
    exact lv_iload_n hx hb hd rfl (S.1.ld hi) (fin (pc + 1) _ _ _ _ _ _ hck hE23 (S.ps trivial))
  | iload i =>
    obtain ⟨hd, hck⟩ := am_split1 hc1 (by intro q; cases q) rfl
    obtain ⟨x, hi, hE24⟩ := am_ldi_some hE
    exact lv_iload hx hb hd (S.1.ld hi) (fin (pc + 2) _ _ _ _ _ _ hck hE24 (S.ps trivial))
  | aload_n i =>
    obtain ⟨hd, hck⟩ := am_split1 hc1 (by intro q; cases q) rfl
    obtain ⟨t, a, hi, hE25⟩ := am_lda_some hE
    exact lv_aload_n hx hb hd rfl (S.1.ld hi) (fin (pc + 1) _ _ _ _ _ _ hck hE25 (S.ps (S.2.1 _ _ hi)))
  | aload i =>
    obtain ⟨hd, hck⟩ := am_split1 hc1 (by intro q; cases q) rfl
    obtain ⟨t, a, hi, hE26⟩ := am_lda_some hE
    exact lv_aload hx hb hd (S.1.ld hi) (fin (pc + 2) _ _ _ _ _ _ hck hE26 (S.ps (S.2.1 _ _ hi)))
  | lload_n i =>
    obtain ⟨hd, hck⟩ := am_split1 hc1 (by intro q; cases q) rfl
    obtain ⟨x, hi, hE27⟩ := am_ldl_some hE
    exact lv_lload_n hx hb hd rfl (S.1.ld hi) (fin (pc + 1) _ _ _ _ _ _ hck hE27 (S.ps trivial))
  | lload i =>
    obtain ⟨hd, hck⟩ := am_split1 hc1 (by intro q; cases q) rfl
    obtain ⟨x, hi, hE28⟩ := am_ldl_some hE
    exact lv_lload hx hb hd (S.1.ld hi) (fin (pc + 2) _ _ _ _ _ _ hck hE28 (S.ps trivial))
  | getfield i =>
    obtain ⟨hd, hck⟩ := am_split1 hc1 (by intro q; cases q) rfl
    obtain ⟨h1, h2⟩ := and2 hck
    exact am_sget C (fun ls st h sl H locs => fin (pc + 3) ls st h sl H locs h1) hd h2 rfl hE S
  | putfield i =>
    obtain ⟨hd, hck⟩ := am_split1 hc1 (by intro q; cases q) rfl
    obtain ⟨h1, h2⟩ := and2 hck
    obtain ⟨h1, h3⟩ := and2 h1
    exact am_sput C (fun ls st h sl H locs => fin (pc + 3) ls st h sl H locs h1) hd h3 h2 rfl hE S
  | iconst i =>
    obtain ⟨hd, hck⟩ := am_split1 hc1 (by intro q; cases q) rfl
    obtain ⟨h1, h2⟩ := and2 hck
    exact lv_iconst hx hb hd (of_decide_eq_true h2) (fin (pc + 1) _ _ _ _ _ _ h1 hE (S.ps trivial))
  | bipush i =>
    obtain ⟨hd, hck⟩ := am_split1 hc1 (by intro q; cases q) rfl
    obtain ⟨h1, h2⟩ := and2 hck
    exact lv_bipush hx hb hd (of_decide_eq_true h2) (fin (pc + 2) _ _ _ _ _ _ h1 hE (S.ps trivial))
  | sipush i =>
    obtain ⟨hd, hck⟩ := am_split1 hc1 (by intro q; cases q) rfl
    obtain ⟨h1, h2⟩ := and2 hck
    exact lv_sipush hx hb hd (of_decide_eq_true h2) (fin (pc + 3) _ _ _ _ _ _ h1 hE (S.ps trivial))
  | lconst i =>
    obtain ⟨hd, hck⟩ := am_split1 hc1 (by intro q; cases q) rfl
    obtain ⟨h1, h2⟩ := and2 hck
    exact lv_lconst hx hb hd (of_decide_eq_true h2) (fin (pc + 1) _ _ _ _ _ _ h1 hE (S.ps trivial))
  | ldc i =>
    obtain ⟨hd, hck⟩ := am_split1 hc1 (by intro q; cases q) rfl
    obtain ⟨h1, h2⟩ := and2 hck
    match aux, h2 with
    | wi :: _, h2 => exact lv_ldc hx hb hown (hts _ (am_word_mem h2)) hd (fin (pc + 2) _ _ _ _ _ _ h1 hE (S.ps trivial))
  | ldc_w i =>
    obtain ⟨hd, hck⟩ := am_split1 hc1 (by intro q; cases q) rfl
    obtain ⟨h1, h2⟩ := and2 hck
    match aux, h2 with
    | wi :: _, h2 => exact lv_ldcw hx hb hown (hts _ (am_word_mem h2)) hd (fin (pc + 3) _ _ _ _ _ _ h1 hE (S.ps trivial))
  | ldc2_w i =>
    obtain ⟨hd, hck⟩ := am_split1 hc1 (by intro q; cases q) rfl
    obtain ⟨h1, h2⟩ := and2 hck
    match aux, h2 with
    | wi :: _, h2 => exact lv_ldc2 hx hb hown (hts _ (am_word_mem h2)) hd (fin (pc + 3) _ _ _ _ _ _ h1 hE (S.ps trivial))
  | iaload =>
    obtain ⟨hd, hck⟩ := am_split1 hc1 (by intro q; cases q) rfl
    obtain ⟨i, r, rfl, hE29⟩ := am_pi_some hE
    obtain ⟨t, a, r, rfl, hE30⟩ := am_pa_some hE29
    split at hE30
    · rename_i ht
      subst ht
      obtain ⟨hin, hE31⟩ := am_b_some hE30
      obtain ⟨hX, hbl, hbA⟩ := hsc (show sc from S.tl.hd)
      exact va_sld (A := am_A b0) hx hb hX hbl hbA S.2.2.2.2.2 hin hd (fin (pc + 1) _ _ _ _ _ _ hck hE31 (S.tl.tl.ps trivial))
    · rename_i ht
      obtain ⟨h100, hE32⟩ := am_ifn_some hE30
      obtain ⟨hin, hE33⟩ := am_b_some hE32
      obtain ⟨ha, hct⟩ := am_obj (h := h) S.tl.hd ht
      have hst : (vi i :: vr t a :: r).map (am_cv b0 bS) = .int i :: .ref (b0 + a) :: r.map (am_cv b0 bS) := by simp [am_cv, ht]
      rw [hst]
      exact va_iald hx hb hK S.2.2.2.1 a 0 (am_at_int ha hct (by omega)) rfl hin hd (fin (pc + 1) _ _ _ _ _ _ hck hE33 (S.tl.tl.ps trivial))
  | iastore =>
    obtain ⟨hd, hck⟩ := am_split1 hc1 (by intro q; cases q) rfl
    obtain ⟨x, r, rfl, hE34⟩ := am_pi_some hE
    obtain ⟨i, r, rfl, hE35⟩ := am_pi_some hE34
    obtain ⟨t, a, r, rfl, hE36⟩ := am_pa_some hE35
    obtain ⟨h100, hE37⟩ := am_ifn_some hE36
    obtain ⟨hin, hE38⟩ := am_b_some hE37
    have ht : t ≠ 8 := by omega
    obtain ⟨ha, hct⟩ := am_obj (h := h) S.tl.tl.hd ht
    have hst : (vi x :: vi i :: vr t a :: r).map (am_cv b0 bS) = .int x :: .int i :: .ref (b0 + a) :: r.map (am_cv b0 bS) := by simp [am_cv, ht]
    rw [hst]
    exact va_iast hx hb hK S.2.2.2.1 (am_w_D b0 cI cH nC h) S.2.2.2.2.2 a 0 (am_at_int ha hct (by omega)) rfl hin hd (fun H1 locs1 hP1 hD1 hS1 => fin (pc + 1) _ _ _ _ _ _ hck hE38 (am_S.wr S.tl.tl.tl (am_en_int hct (by omega) _) hP1 (am_wf_arr S.2.2.2.2.1 (by omega)) hS1))
  | caload =>
    obtain ⟨hd, hck⟩ := am_split1 hc1 (by intro q; cases q) rfl
    obtain ⟨i, r, rfl, hE39⟩ := am_pi_some hE
    obtain ⟨t, a, r, rfl, hE40⟩ := am_pa_some hE39
    obtain ⟨h9, hE41⟩ := am_if_some hE40
    obtain ⟨hin, hE42⟩ := am_b_some hE41
    have ht : t ≠ 8 := by omega
    obtain ⟨ha, hct⟩ := am_obj (h := h) S.tl.hd ht
    have hst : (vi i :: vr t a :: r).map (am_cv b0 bS) = .int i :: .ref (b0 + a) :: r.map (am_cv b0 bS) := by simp [am_cv, ht]
    rw [hst]
    exact va_cald hx hb hK S.2.2.2.1 a 1 (am_at_chr ha (hct.trans h9)) rfl hin hd (fin (pc + 1) _ _ _ _ _ _ hck hE42 (S.tl.tl.ps trivial))
  | castore =>
    obtain ⟨hd, hck⟩ := am_split1 hc1 (by intro q; cases q) rfl
    obtain ⟨x, r, rfl, hE43⟩ := am_pi_some hE
    obtain ⟨i, r, rfl, hE44⟩ := am_pi_some hE43
    obtain ⟨t, a, r, rfl, hE45⟩ := am_pa_some hE44
    obtain ⟨h9, hE46⟩ := am_if_some hE45
    obtain ⟨hin, hE47⟩ := am_b_some hE46
    have ht : t ≠ 8 := by omega
    obtain ⟨ha, hct⟩ := am_obj (h := h) S.tl.tl.hd ht
    have hst : (vi x :: vi i :: vr t a :: r).map (am_cv b0 bS) = .int x :: .int i :: .ref (b0 + a) :: r.map (am_cv b0 bS) := by simp [am_cv, ht]
    rw [hst]
    exact va_cast hx hb hK S.2.2.2.1 (am_w_D b0 cI cH nC h) S.2.2.2.2.2 a 1 (am_at_chr ha (hct.trans h9)) rfl hin hd (fun H1 locs1 hP1 hD1 hS1 => fin (pc + 1) _ _ _ _ _ _ hck hE47 (am_S.wr S.tl.tl.tl (am_en_chr (hct.trans h9) _) hP1 (am_wf_arr S.2.2.2.2.1 (by omega)) hS1))
  | arraylength =>
    obtain ⟨hd, hck⟩ := am_split1 hc1 (by intro q; cases q) rfl
    obtain ⟨t, a, r, rfl, hE48⟩ := am_pa_some hE
    split at hE48
    · rename_i ht
      subst ht
      obtain ⟨hX, hbl, hbA⟩ := hsc (show sc from S.hd)
      exact va_slen (A := am_A b0) hx hb hX hbl hbA S.2.2.2.2.2 hd (fin (pc + 1) _ _ _ _ _ _ hck hE48 (S.tl.ps trivial))
    · rename_i ht
      obtain ⟨h100, hE49⟩ := am_ifn_some hE48
      obtain ⟨ha, hct⟩ := am_obj (h := h) S.hd ht
      have hst : (vr t a :: r).map (am_cv b0 bS) = .ref (b0 + a) :: r.map (am_cv b0 bS) := by simp [am_cv, ht]
      rw [hst]
      exact va_alen hx hb hK S.2.2.2.1 a 0 (am_at_int ha hct (by omega)) rfl rfl hd (fin (pc + 1) _ _ _ _ _ _ hck hE49 (S.tl.ps trivial))
  | istore_n i =>
    obtain ⟨hd, hck⟩ := am_split1 hc1 (by intro q; cases q) rfl
    obtain ⟨h1, h2⟩ := and2 hck
    obtain ⟨x, r, rfl, hE50⟩ := am_pi_some hE
    obtain ⟨hE50, hpre⟩ := am_pre_some hE50
    exact lv_istore_n (lv := am_lv (am_cv b0 bS) 0 ls) hx hb hd rfl S.1.2 (of_decide_eq_true h2) rfl (fun sl' hl' => fin (pc + 1) _ _ _ _ _ _ h1 hE50 (S.tl.loc (S.1.st1 (am_cv_cat b0 bS) (v := vi x) hpre hl') (am_okst S.2.1 trivial)))
  | istore i =>
    obtain ⟨hd, hck⟩ := am_split1 hc1 (by intro q; cases q) rfl
    obtain ⟨h1, h2⟩ := and2 hck
    obtain ⟨x, r, rfl, hE51⟩ := am_pi_some hE
    obtain ⟨hE51, hpre⟩ := am_pre_some hE51
    exact lv_istore (lv := am_lv (am_cv b0 bS) 0 ls) hx hb hd S.1.2 (of_decide_eq_true h2) rfl (fun sl' hl' => fin (pc + 2) _ _ _ _ _ _ h1 hE51 (S.tl.loc (S.1.st1 (am_cv_cat b0 bS) (v := vi x) hpre hl') (am_okst S.2.1 trivial)))
  | astore_n i =>
    obtain ⟨hd, hck⟩ := am_split1 hc1 (by intro q; cases q) rfl
    obtain ⟨h1, h2⟩ := and2 hck
    obtain ⟨t, a, r, rfl, hE52⟩ := am_pa_some hE
    obtain ⟨hE52, hpre⟩ := am_pre_some hE52
    exact lv_astore_n (lv := am_lv (am_cv b0 bS) 0 ls) hx hb hd rfl S.1.2 (of_decide_eq_true h2) rfl (fun sl' hl' => fin (pc + 1) _ _ _ _ _ _ h1 hE52 (S.tl.loc (S.1.st1 (am_cv_cat b0 bS) (v := vr t a) hpre hl') (am_okst S.2.1 S.hd)))
  | lstore_n i =>
    obtain ⟨hd, hck⟩ := am_split1 hc1 (by intro q; cases q) rfl
    obtain ⟨h1, h2⟩ := and2 hck
    obtain ⟨x, r, rfl, hE53⟩ := am_pl_some hE
    obtain ⟨hE53, hpre⟩ := am_pre_some hE53
    exact lv_lstore_n (lv := am_lv (am_cv b0 bS) 0 ls) hx hb hd rfl S.1.2 (of_decide_eq_true h2) rfl (fun sl' hl' => fin (pc + 1) _ _ _ _ _ _ h1 hE53 (S.tl.loc (S.1.st2 (am_cv_cat b0 bS) (v := vl x) hpre hl') (am_okst0 (am_okst S.2.1 trivial))))
  | lstore i =>
    obtain ⟨hd, hck⟩ := am_split1 hc1 (by intro q; cases q) rfl
    obtain ⟨h1, h2⟩ := and2 hck
    obtain ⟨x, r, rfl, hE54⟩ := am_pl_some hE
    obtain ⟨hE54, hpre⟩ := am_pre_some hE54
    exact lv_lstore (lv := am_lv (am_cv b0 bS) 0 ls) hx hb hd S.1.2 (of_decide_eq_true h2) rfl (fun sl' hl' => fin (pc + 2) _ _ _ _ _ _ h1 hE54 (S.tl.loc (S.1.st2 (am_cv_cat b0 bS) (v := vl x) hpre hl') (am_okst0 (am_okst S.2.1 trivial))))
  | iinc i y =>
    obtain ⟨hd, hck⟩ := am_split1 hc1 (by intro q; cases q) rfl
    obtain ⟨h1, h2⟩ := and2 hck
    obtain ⟨h1, h3⟩ := and2 h1
    obtain ⟨x, hi, hE55⟩ := am_ldi_some hE
    obtain ⟨hE55, hpre⟩ := am_pre_some hE55
    obtain ⟨kk, hkk⟩ := S.1.at hi
    exact lv_iinc (v := x + q) (lv := am_lv (am_cv b0 bS) 0 ls) hx hb hd S.1.2 hkk (by rw [of_decide_eq_true h3]) (of_decide_eq_true h2) rfl (fun sl' hl' => fin (pc + 3) _ _ _ _ _ _ h1 hE55 (S.loc (S.1.st1 (am_cv_cat b0 bS) (v := vi (x + q)) hpre hl') (am_okst S.2.1 trivial)))
  | dup =>
    obtain ⟨hd, hck⟩ := am_split1 hc1 (by intro q; cases q) rfl
    match st, hE, S with
    | v :: r, hE, S =>
      obtain ⟨hc, hE56⟩ := am_if_some hE
      exact lv_dup hx hb hd ((am_cv_cat b0 bS v).trans hc) (fin (pc + 1) _ _ _ _ _ _ hck hE56 (S.ps S.hd))
  | dup2 =>
    obtain ⟨hd, hck⟩ := am_split1 hc1 (by intro q; cases q) rfl
    match st, hE, S with
    | v :: w :: r, hE, S =>
      obtain ⟨hc, hE57⟩ := am_if_some hE
      obtain ⟨hc2, hE58⟩ := am_if_some hE57
      exact lv_dup2_11 hx hb hd ((am_cv_cat b0 bS v).trans hc) ((am_cv_cat b0 bS w).trans hc2) (fin (pc + 1) _ _ _ _ _ _ hck hE58 ((S.ps S.tl.hd).ps S.hd))
  | pop =>
    obtain ⟨hd, hck⟩ := am_split1 hc1 (by intro q; cases q) rfl
    match st, hE, S with
    | v :: r, hE, S =>
      obtain ⟨hc, hE59⟩ := am_if_some hE
      exact lv_pop hx hb hd ((am_cv_cat b0 bS v).trans hc) (fin (pc + 1) _ _ _ _ _ _ hck hE59 S.tl)
  | goto off =>
    obtain ⟨hd, hck⟩ := am_split1 hc1 (by intro q; cases q) rfl
    match aux, hck, hE with
    | t :: _, hck, hE => exact lv_goto hx hb hd (am_pcI_pc hck).symm (hN t _ _ _ _ _ _ hE S)
  | if_icmp cd off =>
    obtain ⟨hd, hck⟩ := am_split1 hc1 (by intro q; cases q) rfl
    obtain ⟨h1, h2⟩ := and2 hck
    match aux, h2, hE with
    | t :: _, h2, hE =>
      obtain ⟨a, b, r, rfl, hE60⟩ := am_2_some hE
      have hj := (am_pcI_pc h2).symm
      cases cd with
      | eq => exact lv_icmp_eq hx hb hd hj (fun q => hN t _ _ _ _ _ _ (am_ipos (c := a = b) (q) hE60) S.tl.tl) (fun q => fin (pc + 3) _ _ _ _ _ _ h1 (am_ineg (c := a = b) (q) hE60) S.tl.tl)
      | ne => exact lv_icmp_ne hx hb hd hj (fun q => hN t _ _ _ _ _ _ (am_ineg (c := a = b) (q) hE60) S.tl.tl) (fun q => fin (pc + 3) _ _ _ _ _ _ h1 (am_ipos (c := a = b) (q) hE60) S.tl.tl)
      | lt => exact lv_icmp_lt hx hb hd hj (fun q => hN t _ _ _ _ _ _ (am_ipos (c := a < b) (q) hE60) S.tl.tl) (fun q => fin (pc + 3) _ _ _ _ _ _ h1 (am_ineg (c := a < b) (q) hE60) S.tl.tl)
      | ge => exact lv_icmp_ge hx hb hd hj (fun q => hN t _ _ _ _ _ _ (am_ineg (c := a < b) (am_nlt q) hE60) S.tl.tl) (fun q => fin (pc + 3) _ _ _ _ _ _ h1 (am_ipos (c := a < b) (am_nle q) hE60) S.tl.tl)
      | gt => exact lv_icmp_gt hx hb hd hj (fun q => hN t _ _ _ _ _ _ (am_ipos (c := b < a) (q) hE60) S.tl.tl) (fun q => fin (pc + 3) _ _ _ _ _ _ h1 (am_ineg (c := b < a) (q) hE60) S.tl.tl)
      | le => exact lv_icmp_le hx hb hd hj (fun q => hN t _ _ _ _ _ _ (am_ineg (c := b < a) (am_nlt q) hE60) S.tl.tl) (fun q => fin (pc + 3) _ _ _ _ _ _ h1 (am_ipos (c := b < a) (am_nle q) hE60) S.tl.tl)
  | ifCond cd off =>
    obtain ⟨hd, hck⟩ := am_split1 hc1 (by intro q; cases q) rfl
    obtain ⟨h1, h2⟩ := and2 hck
    match aux, h2, hE with
    | t :: _, h2, hE =>
      obtain ⟨a, r, rfl, hE61⟩ := am_pi_some hE
      have hj := (am_pcI_pc h2).symm
      cases cd with
      | eq => exact lv_if_eq hx hb hd hj (fun q => hN t _ _ _ _ _ _ (am_ipos (c := a = 0) (q) hE61) S.tl) (fun q => fin (pc + 3) _ _ _ _ _ _ h1 (am_ineg (c := a = 0) (q) hE61) S.tl)
      | ne => exact lv_if_ne hx hb hd hj (fun q => hN t _ _ _ _ _ _ (am_ineg (c := a = 0) (q) hE61) S.tl) (fun q => fin (pc + 3) _ _ _ _ _ _ h1 (am_ipos (c := a = 0) (q) hE61) S.tl)
      | lt => exact lv_if_lt hx hb hd hj (fun q => hN t _ _ _ _ _ _ (am_ipos (c := a < 0) (q) hE61) S.tl) (fun q => fin (pc + 3) _ _ _ _ _ _ h1 (am_ineg (c := a < 0) (q) hE61) S.tl)
      | ge => exact lv_if_ge hx hb hd hj (fun q => hN t _ _ _ _ _ _ (am_ineg (c := a < 0) (am_nlt q) hE61) S.tl) (fun q => fin (pc + 3) _ _ _ _ _ _ h1 (am_ipos (c := a < 0) (am_nle q) hE61) S.tl)
      | gt => exact lv_if_gt hx hb hd hj (fun q => hN t _ _ _ _ _ _ (am_ipos (c := 0 < a) (q) hE61) S.tl) (fun q => fin (pc + 3) _ _ _ _ _ _ h1 (am_ineg (c := 0 < a) (q) hE61) S.tl)
      | le => exact lv_if_le hx hb hd hj (fun q => hN t _ _ _ _ _ _ (am_ineg (c := 0 < a) (am_nlt q) hE61) S.tl) (fun q => fin (pc + 3) _ _ _ _ _ _ h1 (am_ipos (c := 0 < a) (am_nle q) hE61) S.tl)
  | invokevirtual i =>
    obtain ⟨hd, hck⟩ := am_split1 hc1 (by intro q; cases q) rfl
    obtain ⟨h1, h2⟩ := and2 hck
    exact am_sinv C hG hcs (fun ls st h sl H locs => fin (pc + 3) ls st h sl H locs h1) true hd h2 rfl hE S
  | invokestatic i =>
    obtain ⟨hd, hck⟩ := am_split1 hc1 (by intro q; cases q) rfl
    obtain ⟨h1, h2⟩ := and2 hck
    by_cases h9 : ∃ wi x, aux = 999 :: wi :: x
    · obtain ⟨wi, x, rfl⟩ := h9
      exact am_scpy C (fun ls st h sl H locs => fin (pc + 3) ls st h sl H locs h1) hd (am_word_mem h2) rfl hE S
    · have h2 : am_ick mt own true i aux = true := am_is1 h2 h9
      exact am_sinv C hG hcs (fun ls st h sl H locs => fin (pc + 3) ls st h sl H locs h1) false hd h2 rfl (am_is2 hE h9 h2) S
  | ireturn =>
    obtain ⟨hd, hck⟩ := am_split1 hc1 (by intro q; cases q) rfl
    match st, aux, hck, hE, S with
    | [Sum.inl v], 1 :: _, hck, hE, S =>
      obtain ⟨hv, hE62⟩ := am_if_some hE
      cases hE62
      exact hZi v h sl H locs pc hd (Or.inr ⟨of_decide_eq_true hck, hv⟩) rfl S
    | [Sum.inl v], 0 :: _, hck, hE, S =>
      cases hE
      exact hZi v h sl H locs pc hd (Or.inl (of_decide_eq_true hck)) rfl S
    | [], _, _, hE, _ => cases hE
    | Sum.inr _ :: _, _, _, hE, _ => cases hE
    | Sum.inl _ :: _ :: _, _, _, hE, _ => cases hE
    | [Sum.inl _], [], _, hE, _ => cases hE
    | [Sum.inl _], (_ + 2) :: _, _, hE, _ => cases hE
  | return_ =>
    obtain ⟨hd, hck⟩ := am_split1 hc1 (by intro q; cases q) rfl
    match st, hE, S with
    | [], hE, S =>
      cases hE
      exact hZv h sl H locs pc hd (of_decide_eq_true hck) rfl S
    | _ :: _, hE, _ => cases hE
  | tableswitch df lo hi offs =>
    obtain ⟨hd, -, hck⟩ := am_split hc1 (by intro q; cases q)
    match aux, hck, hE with
    | t :: l', hck, hE =>
      obtain ⟨h1, h5⟩ := and2 hck
      obtain ⟨h1, h4⟩ := and2 h1
      obtain ⟨h1, h3⟩ := and2 h1
      obtain ⟨h1, h2⟩ := and2 h1
      have h2 := of_decide_eq_true h2
      have h3 := of_decide_eq_true h3
      have h5 := of_decide_eq_true h5
      obtain ⟨x, r, rfl, hE63⟩ := am_pi_some hE
      have hlo : ((lo.toNat : Nat) : Int) = lo := by omega
      rcases am_tsw _ _ _ h4 (by omega) hE63 with ⟨j, t', o, a1, a2, a3, a4⟩ | ⟨a1, a2⟩
      · have hjl : j < offs.toList.length := (List.getElem?_eq_some_iff.mp a2).1
        exact lv_tableIn hx hb hd (by omega) (by omega) (by rw [show (x.toInt - lo).toNat = j by omega]; simpa using a2) (am_pcI_pc a4).symm (hN t' _ _ _ _ _ _ a3 S.tl)
      · exact lv_tableOut hx hb hd (by omega) (am_pcI_pc h1).symm (hN t _ _ _ _ _ _ a2 S.tl)
  | lookupswitch df ps =>
    obtain ⟨hd, -, hck⟩ := am_split hc1 (by intro q; cases q)
    match aux, hck, hE with
    | t :: l', hck, hE =>
      obtain ⟨h1, h3⟩ := and2 hck
      obtain ⟨h1, h2⟩ := and2 h1
      obtain ⟨x, r, rfl, hE64⟩ := am_pi_some hE
      obtain ⟨t', a1, a2⟩ := am_lsw h1 _ _ h3 hE64
      exact lv_lookup hx hb hd h2 rfl (am_pcI_pc a1).symm (hN t' _ _ _ _ _ _ a2 S.tl)
  | nop =>
    match st, aux, hc1, hE, S with
    | [], t :: _, hc1, hE, S =>
      have hp := am_pcI_pc (show am_pcI (am_drp t tb) ((pc : Nat) : Int) = true from hc1)
      have hp : am_pc (am_drp t tb) = pc := by omega
      rw [← hp]
      exact hR t ls [] h sl H locs hE S
    | [], [], _, hE, _ => cases hE
    | _ :: _, _, _, hE, _ => cases hE
  | _ => exact absurd (show (none : am_Z) = some Z from hE) (fun q => by cases q)
end SIM
end
section
section SIM
variable {p : Program} {l : Launch} {e : Env} {R : Room} {s : State} {m : MethodId} {args : Array Value} {below : List Frame} {meth : Method} {c : Code} {cells slots : Nat} {Q : State → Prop}
variable {mt : Nat → am_M} {own : String} {cc : ByteArray} {tb : List am_W} {nL b0 bS nC L d : Nat} {xs : Nat → Int32} {D : va_G} {cI cH : ClassId} {sc : Prop} {rt : Option FieldType} {G : Nat → List am_V → am_H → am_Z}
theorem am_seg_ok {rc : Nat → am_L → am_H → am_Z} {Z : am_H × Option Int32} (C : am_Cx p s m args c R mt own cc tb nL b0 bS nC L d xs D cI cH sc rt) (hG : am_GO l mt b0 nC D cI cH d G) (hcs : cells ≤ R.cells ∧ slots ≤ R.slots)
    (hR : ∀ i : Nat, am_Nx p l e R s m args below meth c cells slots Q nL b0 bS nC D cI cH sc (am_pc (am_drp i tb)) (fun ls st h => match st with | [] => rc i ls h | _ => none) Z)
    (hZi : ∀ ls, am_Zi p l e R s m args below meth c cells slots Q cc nL b0 bS nC D cI cH sc rt ls Z) (hZv : ∀ ls, am_Zv p l e R s m args below meth c cells slots Q cc nL b0 bS nC D cI cH sc rt ls Z) :
    ∀ (k i : Nat), am_Nx p l e R s m args below meth c cells slots Q nL b0 bS nC D cI cH sc (am_pc (am_drp i tb)) (am_seg L xs tb G rc k (am_drp i tb)) Z := by
  intro k
  induction k with
  | zero => intro i ls st h sl H locs hE; cases hE
  | succ k ih =>
    intro i
    cases hrow : am_drp i tb with
    | nil => intro ls st h sl H locs hE; cases hE
    | cons w rest =>
      obtain ⟨pc, len, ins, aux, q⟩ := w
      exact am_step C hG hcs ih hR hZi hZv hrow
theorem am_run_ok {Z : am_H × Option Int32} (C : am_Cx p s m args c R mt own cc tb nL b0 bS nC L d xs D cI cH sc rt) (hG : am_GO l mt b0 nC D cI cH d G) (hcs : cells ≤ R.cells ∧ slots ≤ R.slots)
    (hZi : ∀ ls, am_Zi p l e R s m args below meth c cells slots Q cc nL b0 bS nC D cI cH sc rt ls Z) (hZv : ∀ ls, am_Zv p l e R s m args below meth c cells slots Q cc nL b0 bS nC D cI cH sc rt ls Z) :
    ∀ (n i : Nat), am_Nx p l e R s m args below meth c cells slots Q nL b0 bS nC D cI cH sc (am_pc (am_drp i tb)) (fun ls st h => match st with | [] => am_run L xs tb G n i ls h | _ => none) Z := by
  intro n
  induction n with
  | zero =>
    intro i ls st h sl H locs hE
    match st, hE with
    | [], hE => cases hE
    | _ :: _, hE => cases hE
  | succ n ih =>
    intro i ls st h sl H locs hE S
    match st, hE, S with
    | [], hE, S => exact am_seg_ok C hG hcs ih hZi hZv 1000 i ls [] h sl H locs hE S
    | _ :: _, hE, _ => cases hE
end SIM
theorem am_ent_len : ∀ (as : List am_V) (n : Nat), am_cats as ≤ n → (am_ent as n).length = n := by
  intro as
  induction as with
  | nil => intro n _; simp [am_ent]
  | cons v as ih =>
    intro n h
    have h : am_cat v + am_cats as ≤ n := h
    unfold am_ent
    split
    · rename_i e
      have := ih (n - 2) (by omega)
      simp [this]
      omega
    · rename_i e
      have e1 : am_cat v = 1 := by rcases v with x | ⟨t, a⟩ | x <;> first | rfl | exact absurd rfl e
      have := ih (n - 1) (by omega)
      simp [this]
      omega
theorem am_lv_nones (f : am_V → Value) : ∀ (n i : Nat), am_lv f i (List.replicate n none) = [] := by
  intro n
  induction n with
  | zero => intro i; rfl
  | succ n ih => intro i; exact ih (i + 1)
theorem am_ent_lv {f : am_V → Value} (hf : ∀ v, (f v).category = am_cat v) : ∀ (as : List am_V) (n i : Nat), am_lv f i (am_ent as n) = lv_args i (as.map f) := by
  intro as
  induction as with
  | nil => intro n i; exact am_lv_nones f n i
  | cons v as ih =>
    intro n i
    have e0 : lv_args i ((v :: as).map f) = (i, f v) :: lv_args (if (f v).category = 2 then i + 2 else i + 1) (as.map f) := rfl
    rw [e0, hf]
    unfold am_ent
    split
    · rename_i e
      rw [e, if_pos rfl]
      show (i, f v) :: am_lv f (i + 1 + 1) (am_ent as (n - 2)) = _
      rw [ih]
    · rename_i e
      rw [if_neg (fun q => e (by rw [q]))]
      show (i, f v) :: am_lv f (i + 1) (am_ent as (n - 1)) = _
      rw [ih]
theorem am_ent_mem : ∀ (as : List am_V) (n i : Nat) (v : am_V), am_ix (am_ent as n) i = some v → v ∈ as := by
  intro as
  induction as with
  | nil =>
    intro n
    have : ∀ (n i : Nat) (v : am_V), am_ix (List.replicate n none) i = some v → False := by
      intro n
      induction n with
      | zero => intro i v h; cases h
      | succ n ih =>
        intro i v h
        match i, h with
        | i + 1, h => exact ih i v h
    intro i v h
    exact (this n i v h).elim
  | cons w as ih =>
    intro n i v h
    unfold am_ent at h
    split at h
    · match i, h with
      | 0, h => cases h; exact List.mem_cons_self
      | 1, h => cases h
      | i + 2, h => exact List.mem_cons_of_mem _ (ih _ i v h)
    · match i, h with
      | 0, h => cases h; exact List.mem_cons_self
      | i + 1, h => exact List.mem_cons_of_mem _ (ih _ i v h)
theorem am_sl_len (f : am_V → Value) (hf : ∀ v, (f v).category = am_cat v) : ∀ (as : List am_V), (lg_sl (as.map f)).length = am_cats as := by
  intro as
  induction as with
  | nil => rfl
  | cons v as ih =>
    have e0 : lg_sl ((v :: as).map f) = (if (f v).category = 2 then [Slot.val (f v), .second] else [.val (f v)]) ++ lg_sl (as.map f) := rfl
    rw [e0, List.length_append, ih, hf]
    show _ = am_cat v + am_cats as
    congr 1
    rcases v with x | ⟨t, a⟩ | x <;> rfl
/-- as Met.ofW, of a method of any class that no native row replaces -/
theorem am_ofW {l : Launch} {y : MethodName} {ws ws' : List Cond} {rm : Room} {Pc : Array Value → State → Prop} {Qc : Array Value → State → Outcome → State → Prop} {mc ms : Nat} {free : Addr → Prop} {cc : ByteArray} {maxL : Nat} {ret : Option FieldType}
    (hy : plainFor y = true) (hw : ws = Cond.code y cc maxL ret :: ws')
    (body : ∀ p e s m args below meth c s₁, BodyLoose p l y (headSpec ws rm) cc maxL ret e s m args below meth c s₁ → c.maxLocals = maxL → Pc args s →
      W p l e (headSpec ws rm).room s m args below meth c s.heap [] 0 0 (MQ below Qc args s mc ms free) (entryFrame m args maxL)) : Met l y ws rm Pc Qc mc ms free := by
  refine MetFree.of_bodySF (code := cc) (maxLocals := maxL) (ret := ret) hy ?_ ?_
  · intro args s m h hn
    obtain ⟨meth, c, h1, h2, h3, h4, h5, h6, -, -⟩ := Cond.code_spec hn (atoms_spec (ws := ws) h _ (by rw [hw]; exact List.mem_cons_self))
    exact ⟨meth, c, h1, h2, h3, h4, h5, h6⟩
  · intro p e s m args below meth c s₁ B hml hP _
    have hh0 : s₁.heap = s.heap := by rw [B.state]; rfl
    obtain ⟨t, a1, o, b1, b2, b3⟩ := body p e s m args below meth c s₁ B hml hP s₁ hh0 (Stand.of_body B)
    exact ⟨t, o, a1, b1, b2, ⟨b3.1, b3.2⟩⟩
set_option maxHeartbeats 1000000 in
/-- WHAT THE ABSTRACT MACHINE ANSWERS, THE METHODS DO: by levels -/
theorem am_lvl (l : Launch) {mt : Nat → am_M} {tbs : Nat → List am_W} (hMT : am_MT mt) (hchk : ∀ z, am_chks mt (mt z).1.cls (mt z).2.1 (tbs z) (mt z).2.2.1 (mt z).2.2.2.1 (tbs z) = true) (hpc : ∀ z, am_pc (tbs z) = 0) {nC : Nat} (hclo : am_clo nC = true) (hnC : nC < 1000) (b0 : Nat) (D : va_G) (cI cH : ClassId) :
    ∀ d : Nat, am_GO l mt b0 nC D cI cH d (am_G (fun z => (tbs z, (mt z).2.2.1)) d) := by
  intro d
  induction d with
  | zero => intro z as h h' r hE; cases hE
  | succ d ih =>
    intro z as h h' r hE hok hwf
    have hE : (if (mt z).2.2.1 < am_cats as then none else am_run 0 (fun _ => 0) (tbs z) (am_G (fun z => (tbs z, (mt z).2.2.1)) d) 1000000 0 (am_ent as (mt z).2.2.1) h) = some (h', r) := hE
    obtain ⟨hcat, hE1⟩ := am_ifn_some hE
    obtain ⟨m1, m2, m3, m4, m5, m6, m7, m8⟩ := am_mck_spec (hMT z)
    refine am_ofW (cc := (mt z).2.1) (maxL := (mt z).2.2.1) (ret := (mt z).2.2.2.1) m4 rfl ?_
    intro p e s m args below meth c s₁ B hml hv
    obtain ⟨rfl, hP, hK⟩ := hv
    have hts := atoms_spec (ws := am_mw mt z) B.pre
    have hown : s.vm.findClass (mt z).1.cls = some m.cls := findClass_of_methodNamed B.named
    have hlocks := B.notSynchronized
    have hx := B.exec
    have hb := B.bytes
    have hr := B.returns
    have hl := lv_entry (as.map (am_cv b0 0)) (n := (mt z).2.2.1) (by rw [am_sl_len _ (am_cv_cat b0 0)]; omega)
    rw [lg_entry_eq]
    generalize (lg_sl (as.map (am_cv b0 0)) ++ List.replicate ((mt z).2.2.1 - (lg_sl (as.map (am_cv b0 0))).length) Slot.unset).toArray = sl at hl ⊢
    have hLR : am_LR (am_cv b0 0) (mt z).2.2.1 (am_ent as (mt z).2.2.1) sl := ⟨am_ent_len _ _ (by omega), by rw [am_ent_lv (am_cv_cat b0 0)]; exact hl⟩
    have C : am_Cx p s m (as.map (am_cv b0 0)).toArray c (headSpec (am_mw mt z) (am_rm (d + 1))).room mt (mt z).1.cls (mt z).2.1 (tbs z) (mt z).2.2.1 b0 0 nC 0 d (fun _ => 0) D cI cH False (mt z).2.2.2.1 :=
      ⟨hx, hb, hml, hown, fun w hw => hts w (List.mem_cons_of_mem _ hw), hK, hchk z, hclo, hnC, ⟨Nat.le_refl _, by show 35 * d + 35 ≤ 35 * (d + 1); omega⟩, fun q => q.elim, hMT⟩
    have key := am_run_ok (l := l) (e := e) (below := below) (meth := meth) (cells := 0) (slots := 0) (Q := MQ below (am_Qc b0 nC D cI cH h' r) (as.map (am_cv b0 0)).toArray s 0 0 (am_A b0)) (Z := (h', r)) C ih ⟨Nat.zero_le _, Nat.zero_le _⟩ ?_ ?_ 1000000 0 (am_ent as (mt z).2.2.1) [] h sl s.heap [] hE1 ⟨hLR, fun i v hi => hok v (am_ent_mem _ _ _ _ hi), (fun v hv => absurd hv (List.not_mem_nil)), hP, hwf, va_S.rf⟩
    · rw [show am_pc (am_drp 0 (tbs z)) = 0 from hpc z] at key
      exact key
    · intro ls v h1 sl1 H1 locs1 pc1 hd hrt hZ S
      cases hZ
      have hq : ∀ t : State, t.heap = H1 → s.WarmedH t.vm → am_Qc b0 nC D cI cH h' (some v) (as.map (am_cv b0 0)).toArray s (.returned (some (.int v))) t := fun t ht _ => ⟨⟨v, (), rfl, ⟨rfl, S.2.2.2.2.1⟩, (by show va_P _ _ _ t.heap; rw [ht]; exact S.2.2.2.1)⟩, S.2.2.2.2.2.F ht⟩
      rcases hrt with e1 | ⟨e1, e2⟩
      · exact W.zret (ty := .int) hx hb (hr.trans e1) rfl hq S.2.2.2.2.2.2.2 hd
      · exact W.zret (ty := .boolean) hx hb (hr.trans e1) (by show Value.int (v &&& 1) = _; rw [e2]) hq S.2.2.2.2.2.2.2 hd
    · intro ls h1 sl1 H1 locs1 pc1 hd hrt hZ S
      cases hZ
      exact W.vret hx hb (hr.trans hrt) (fun t ht _ => ⟨⟨(), rfl, S.2.2.2.2.1, (by show va_P _ _ _ t.heap; rw [ht]; exact S.2.2.2.1)⟩, S.2.2.2.2.2.F ht⟩) S.2.2.2.2.2.2.2 hd
end
section
/-! THE CODE TABLES, by program -/
def cA_add : List am_W := [(0, 1, .aload_n 0, [], 0),
  (1, 3, .getfield 21, [0, 0, 3, 0, 0, 256], 0),
  (4, 2, .bipush 40, [], 40),
  (6, 3, .if_icmp .lt 5, [6], 0),
  (9, 1, .iconst 0, [], 0),
  (10, 1, .ireturn, [1], 0),
  (11, 1, .aload_n 0, [], 0),
  (12, 3, .getfield 9, [1, 0, 0, 140, 1, 250], 0),
  (15, 1, .aload_n 0, [], 0),
  (16, 3, .getfield 21, [0, 0, 3, 0, 0, 256], 0),
  (19, 1, .iload_n 1, [], 0),
  (20, 1, .iastore, [], 0),
  (21, 1, .aload_n 0, [], 0),
  (22, 3, .getfield 15, [1, 0, 1, 140, 2, 252], 0),
  (25, 1, .aload_n 0, [], 0),
  (26, 3, .getfield 21, [0, 0, 3, 0, 0, 256], 0),
  (29, 1, .iload_n 2, [], 0),
  (30, 1, .iastore, [], 0),
  (31, 1, .aload_n 0, [], 0),
  (32, 3, .getfield 18, [1, 0, 2, 140, 3, 254], 0),
  (35, 1, .aload_n 0, [], 0),
  (36, 3, .getfield 21, [0, 0, 3, 0, 0, 256], 0),
  (39, 1, .iload_n 3, [], 0),
  (40, 1, .iastore, [], 0),
  (41, 1, .aload_n 0, [], 0),
  (42, 1, .dup, [], 0),
  (43, 3, .getfield 21, [0, 0, 3, 0, 0, 256], 0),
  (46, 1, .iconst 1, [], 1),
  (47, 1, .iadd, [], 0),
  (48, 3, .putfield 21, [0, 0, 3, 0, 0, 256], 0),
  (51, 1, .iconst 1, [], 1),
  (52, 1, .ireturn, [1], 0)]
def cA_copy : List am_W := [(0, 1, .aload_n 0, [], 0),
  (1, 1, .aload_n 1, [], 0),
  (2, 3, .getfield 21, [0, 0, 3, 0, 0, 256], 0),
  (5, 3, .putfield 21, [0, 0, 3, 0, 0, 256], 0),
  (8, 1, .aload_n 1, [], 0),
  (9, 3, .getfield 9, [1, 0, 0, 140, 1, 250], 0),
  (12, 1, .iconst 0, [], 0),
  (13, 1, .aload_n 0, [], 0),
  (14, 3, .getfield 9, [1, 0, 0, 140, 1, 250], 0),
  (17, 1, .iconst 0, [], 0),
  (18, 1, .aload_n 0, [], 0),
  (19, 3, .getfield 21, [0, 0, 3, 0, 0, 256], 0),
  (22, 3, .invokestatic 25, [999, 828], 0),
  (25, 1, .aload_n 1, [], 0),
  (26, 3, .getfield 15, [1, 0, 1, 140, 2, 252], 0),
  (29, 1, .iconst 0, [], 0),
  (30, 1, .aload_n 0, [], 0),
  (31, 3, .getfield 15, [1, 0, 1, 140, 2, 252], 0),
  (34, 1, .iconst 0, [], 0),
  (35, 1, .aload_n 0, [], 0),
  (36, 3, .getfield 21, [0, 0, 3, 0, 0, 256], 0),
  (39, 3, .invokestatic 25, [999, 828], 0),
  (42, 1, .aload_n 1, [], 0),
  (43, 3, .getfield 18, [1, 0, 2, 140, 3, 254], 0),
  (46, 1, .iconst 0, [], 0),
  (47, 1, .aload_n 0, [], 0),
  (48, 3, .getfield 18, [1, 0, 2, 140, 3, 254], 0),
  (51, 1, .iconst 0, [], 0),
  (52, 1, .aload_n 0, [], 0),
  (53, 3, .getfield 21, [0, 0, 3, 0, 0, 256], 0),
  (56, 3, .invokestatic 25, [999, 828], 0),
  (59, 1, .return_, [], 0)]
def cK_begin : List am_W := [(0, 1, .aload_n 0, [], 0),
  (1, 1, .aload_n 1, [], 0),
  (2, 3, .putfield 48, [2, 1, 0, 2, 0, 188], 0),
  (5, 1, .aload_n 0, [], 0),
  (6, 1, .iload_n 2, [], 0),
  (7, 3, .putfield 52, [0, 1, 1, 0, 0, 189], 0),
  (10, 1, .aload_n 0, [], 0),
  (11, 1, .iconst 0, [], 0),
  (12, 3, .putfield 56, [0, 1, 14, 0, 0, 211], 0),
  (15, 1, .iconst 0, [], 0),
  (16, 1, .istore_n 3, [], 0),
  (17, 0, .nop, [12], 0),
  (17, 1, .iload_n 3, [], 0),
  (18, 1, .aload_n 0, [], 0),
  (19, 3, .getfield 48, [2, 1, 0, 2, 0, 188], 0),
  (22, 3, .getfield 59, [0, 2, 16, 0, 0, 133], 0),
  (25, 3, .if_icmp .ge 45, [41], 0),
  (28, 1, .aload_n 0, [], 0),
  (29, 3, .getfield 15, [1, 1, 3, 104, 2, 192], 0),
  (32, 1, .iload_n 3, [], 0),
  (33, 1, .iconst 0, [], 0),
  (34, 1, .iastore, [], 0),
  (35, 1, .aload_n 0, [], 0),
  (36, 3, .getfield 18, [1, 1, 4, 104, 3, 194], 0),
  (39, 1, .iload_n 3, [], 0),
  (40, 1, .aload_n 0, [], 0),
  (41, 3, .getfield 48, [2, 1, 0, 2, 0, 188], 0),
  (44, 3, .getfield 64, [1, 2, 9, 104, 10, 116], 0),
  (47, 1, .iload_n 3, [], 0),
  (48, 1, .iaload, [], 0),
  (49, 1, .iastore, [], 0),
  (50, 1, .aload_n 0, [], 0),
  (51, 1, .iload_n 3, [], 0),
  (52, 1, .aload_n 0, [], 0),
  (53, 3, .getfield 48, [2, 1, 0, 2, 0, 188], 0),
  (56, 3, .getfield 67, [1, 2, 8, 104, 9, 114], 0),
  (59, 1, .iload_n 3, [], 0),
  (60, 1, .iaload, [], 0),
  (61, 3, .invokevirtual 70, [9, 3, 0, 1, 430], 0),
  (64, 3, .iinc 3 1, [], 1),
  (67, 3, .goto (-50), [11], 0),
  (70, 1, .iconst 0, [], 0),
  (71, 1, .istore_n 3, [], 0),
  (72, 0, .nop, [44], 0),
  (72, 1, .iload_n 3, [], 0),
  (73, 1, .aload_n 0, [], 0),
  (74, 3, .getfield 48, [2, 1, 0, 2, 0, 188], 0),
  (77, 3, .getfield 74, [0, 2, 17, 0, 0, 136], 0),
  (80, 3, .if_icmp .ge 46, [75], 0),
  (83, 1, .aload_n 0, [], 0),
  (84, 3, .getfield 24, [1, 1, 6, 105, 5, 197], 0),
  (87, 1, .iload_n 3, [], 0),
  (88, 1, .aload_n 0, [], 0),
  (89, 3, .getfield 48, [2, 1, 0, 2, 0, 188], 0),
  (92, 3, .getfield 77, [1, 2, 10, 105, 11, 118], 0),
  (95, 1, .iload_n 3, [], 0),
  (96, 1, .iaload, [], 0),
  (97, 1, .iastore, [], 0),
  (98, 1, .aload_n 0, [], 0),
  (99, 3, .getfield 27, [1, 1, 7, 105, 6, 199], 0),
  (102, 1, .iload_n 3, [], 0),
  (103, 2, .bipush (-4), [], (-4)),
  (105, 1, .iastore, [], 0),
  (106, 1, .aload_n 0, [], 0),
  (107, 3, .getfield 30, [1, 1, 8, 105, 7, 201], 0),
  (110, 1, .iload_n 3, [], 0),
  (111, 1, .iconst 0, [], 0),
  (112, 1, .iastore, [], 0),
  (113, 1, .aload_n 0, [], 0),
  (114, 3, .getfield 33, [1, 1, 9, 105, 8, 203], 0),
  (117, 1, .iload_n 3, [], 0),
  (118, 1, .iconst 0, [], 0),
  (119, 1, .iastore, [], 0),
  (120, 3, .iinc 3 1, [], 1),
  (123, 3, .goto (-51), [43], 0),
  (126, 1, .return_, [], 0)]
def cK_perform : List am_W := [(0, 1, .iload_n 1, [], 0),
  (1, 3, .ifCond .ne 12, [7], 0),
  (4, 1, .aload_n 0, [], 0),
  (5, 1, .iload_n 2, [], 0),
  (6, 1, .iload_n 3, [], 0),
  (7, 3, .invokevirtual 80, [7, 3, 0, 1, 587], 0),
  (10, 3, .goto 69, [45], 0),
  (13, 1, .iload_n 1, [], 0),
  (14, 1, .iconst 1, [], 1),
  (15, 3, .if_icmp .ne 21, [20], 0),
  (18, 1, .aload_n 0, [], 0),
  (19, 1, .iload_n 2, [], 0),
  (20, 1, .iload_n 3, [], 0),
  (21, 3, .invokevirtual 83, [4, 3, 1, 1, 595], 0),
  (24, 3, .ifCond .eq 12, [20], 0),
  (27, 1, .aload_n 0, [], 0),
  (28, 1, .iload_n 2, [], 0),
  (29, 1, .iload_n 3, [], 0),
  (30, 3, .invokevirtual 87, [8, 3, 0, 1, 603], 0),
  (33, 3, .goto 46, [45], 0),
  (36, 1, .iload_n 1, [], 0),
  (37, 1, .iconst 2, [], 2),
  (38, 3, .if_icmp .ne 21, [33], 0),
  (41, 1, .aload_n 0, [], 0),
  (42, 1, .iload_n 2, [], 0),
  (43, 1, .iload_n 3, [], 0),
  (44, 3, .invokevirtual 90, [5, 3, 1, 1, 615], 0),
  (47, 3, .ifCond .eq 12, [33], 0),
  (50, 1, .aload_n 0, [], 0),
  (51, 1, .iload_n 2, [], 0),
  (52, 1, .iload_n 3, [], 0),
  (53, 3, .invokevirtual 93, [10, 3, 0, 1, 619], 0),
  (56, 3, .goto 23, [45], 0),
  (59, 1, .iload_n 1, [], 0),
  (60, 1, .iconst 3, [], 3),
  (61, 3, .if_icmp .ne 18, [45], 0),
  (64, 1, .aload_n 0, [], 0),
  (65, 1, .iload_n 2, [], 0),
  (66, 1, .iload_n 3, [], 0),
  (67, 3, .invokevirtual 96, [6, 3, 1, 1, 624], 0),
  (70, 3, .ifCond .eq 9, [45], 0),
  (73, 1, .aload_n 0, [], 0),
  (74, 1, .iload_n 2, [], 0),
  (75, 1, .iload_n 3, [], 0),
  (76, 3, .invokevirtual 99, [11, 3, 0, 1, 628], 0),
  (79, 1, .return_, [], 0)]
def cK_canGo : List am_W := [(0, 1, .aload_n 0, [], 0),
  (1, 3, .getfield 48, [2, 1, 0, 2, 0, 188], 0),
  (4, 1, .iload_n 2, [], 0),
  (5, 1, .aload_n 0, [], 0),
  (6, 3, .getfield 9, [1, 1, 2, 104, 1, 190], 0),
  (9, 1, .iload_n 1, [], 0),
  (10, 1, .iaload, [], 0),
  (11, 3, .invokevirtual 102, [29, 3, 1, 2, 599], 0),
  (14, 1, .ireturn, [1], 0)]
def cK_canTake : List am_W := [(0, 1, .aload_n 0, [], 0),
  (1, 3, .getfield 24, [1, 1, 6, 105, 5, 197], 0),
  (4, 1, .iload_n 2, [], 0),
  (5, 1, .iaload, [], 0),
  (6, 1, .aload_n 0, [], 0),
  (7, 3, .getfield 9, [1, 1, 2, 104, 1, 190], 0),
  (10, 1, .iload_n 1, [], 0),
  (11, 1, .iaload, [], 0),
  (12, 3, .if_icmp .ne 22, [20], 0),
  (15, 1, .aload_n 0, [], 0),
  (16, 3, .getfield 30, [1, 1, 8, 105, 7, 201], 0),
  (19, 1, .iload_n 2, [], 0),
  (20, 1, .iaload, [], 0),
  (21, 1, .aload_n 0, [], 0),
  (22, 3, .getfield 15, [1, 1, 3, 104, 2, 192], 0),
  (25, 1, .iload_n 1, [], 0),
  (26, 1, .iaload, [], 0),
  (27, 3, .if_icmp .gt 7, [20], 0),
  (30, 1, .iconst 1, [], 1),
  (31, 3, .goto 4, [21], 0),
  (34, 1, .iconst 0, [], 0),
  (35, 1, .ireturn, [1], 0)]
def cK_canPut : List am_W := [(0, 1, .aload_n 0, [], 0),
  (1, 3, .getfield 27, [1, 1, 7, 105, 6, 199], 0),
  (4, 1, .iload_n 2, [], 0),
  (5, 1, .iaload, [], 0),
  (6, 1, .iload_n 1, [], 0),
  (7, 3, .if_icmp .ne 7, [8], 0),
  (10, 1, .iconst 1, [], 1),
  (11, 3, .goto 4, [9], 0),
  (14, 1, .iconst 0, [], 0),
  (15, 1, .ireturn, [1], 0)]
def cK_pass : List am_W := [(0, 1, .aload_n 0, [], 0),
  (1, 3, .getfield 15, [1, 1, 3, 104, 2, 192], 0),
  (4, 1, .iload_n 1, [], 0),
  (5, 1, .dup2, [], 0),
  (6, 1, .iaload, [], 0),
  (7, 1, .iload_n 2, [], 0),
  (8, 1, .aload_n 0, [], 0),
  (9, 1, .aload_n 0, [], 0),
  (10, 3, .getfield 9, [1, 1, 2, 104, 1, 190], 0),
  (13, 1, .iload_n 1, [], 0),
  (14, 1, .iaload, [], 0),
  (15, 3, .invokevirtual 105, [12, 2, 1, 1, 591], 0),
  (18, 1, .imul, [], 0),
  (19, 1, .iadd, [], 0),
  (20, 1, .iastore, [], 0),
  (21, 1, .aload_n 0, [], 0),
  (22, 3, .getfield 18, [1, 1, 4, 104, 3, 194], 0),
  (25, 1, .iload_n 1, [], 0),
  (26, 1, .dup2, [], 0),
  (27, 1, .iaload, [], 0),
  (28, 1, .iload_n 2, [], 0),
  (29, 1, .iadd, [], 0),
  (30, 1, .iastore, [], 0),
  (31, 1, .aload_n 0, [], 0),
  (32, 3, .getfield 45, [1, 1, 13, 144, 12, 210], 0),
  (35, 1, .aload_n 0, [], 0),
  (36, 3, .getfield 21, [1, 1, 5, 104, 4, 196], 0),
  (39, 1, .iload_n 1, [], 0),
  (40, 1, .iaload, [], 0),
  (41, 1, .aload_n 0, [], 0),
  (42, 3, .getfield 15, [1, 1, 3, 104, 2, 192], 0),
  (45, 1, .iload_n 1, [], 0),
  (46, 1, .iaload, [], 0),
  (47, 1, .iastore, [], 0),
  (48, 1, .iconst 0, [], 0),
  (49, 1, .istore_n 3, [], 0),
  (50, 0, .nop, [37], 0),
  (50, 1, .iload_n 3, [], 0),
  (51, 1, .aload_n 0, [], 0),
  (52, 3, .getfield 48, [2, 1, 0, 2, 0, 188], 0),
  (55, 3, .getfield 74, [0, 2, 17, 0, 0, 136], 0),
  (58, 3, .if_icmp .ge 33, [60], 0),
  (61, 1, .aload_n 0, [], 0),
  (62, 3, .getfield 27, [1, 1, 7, 105, 6, 199], 0),
  (65, 1, .iload_n 3, [], 0),
  (66, 1, .iaload, [], 0),
  (67, 1, .iload_n 1, [], 0),
  (68, 3, .if_icmp .ne 17, [58], 0),
  (71, 1, .aload_n 0, [], 0),
  (72, 3, .getfield 33, [1, 1, 9, 105, 8, 203], 0),
  (75, 1, .iload_n 3, [], 0),
  (76, 1, .dup2, [], 0),
  (77, 1, .iaload, [], 0),
  (78, 1, .iload_n 2, [], 0),
  (79, 3, .sipush 144, [], 144),
  (82, 1, .imul, [], 0),
  (83, 1, .iadd, [], 0),
  (84, 1, .iastore, [], 0),
  (85, 3, .iinc 3 1, [], 1),
  (88, 3, .goto (-38), [36], 0),
  (91, 1, .return_, [], 0)]
def cK_cross : List am_W := [(0, 1, .aload_n 0, [], 0),
  (1, 1, .iload_n 1, [], 0),
  (2, 1, .aload_n 0, [], 0),
  (3, 3, .getfield 48, [2, 1, 0, 2, 0, 188], 0),
  (6, 3, .getfield 109, [0, 2, 18, 0, 0, 139], 0),
  (9, 3, .invokevirtual 80, [7, 3, 0, 1, 587], 0),
  (12, 1, .aload_n 0, [], 0),
  (13, 3, .getfield 15, [1, 1, 3, 104, 2, 192], 0),
  (16, 1, .iload_n 1, [], 0),
  (17, 1, .dup2, [], 0),
  (18, 1, .iaload, [], 0),
  (19, 1, .aload_n 0, [], 0),
  (20, 3, .getfield 48, [2, 1, 0, 2, 0, 188], 0),
  (23, 1, .iload_n 2, [], 0),
  (24, 1, .aload_n 0, [], 0),
  (25, 3, .getfield 9, [1, 1, 2, 104, 1, 190], 0),
  (28, 1, .iload_n 1, [], 0),
  (29, 1, .iaload, [], 0),
  (30, 3, .invokevirtual 112, [31, 3, 1, 2, 607], 0),
  (33, 1, .iadd, [], 0),
  (34, 1, .iastore, [], 0),
  (35, 1, .aload_n 0, [], 0),
  (36, 1, .iload_n 1, [], 0),
  (37, 1, .aload_n 0, [], 0),
  (38, 3, .getfield 48, [2, 1, 0, 2, 0, 188], 0),
  (41, 1, .iload_n 2, [], 0),
  (42, 1, .aload_n 0, [], 0),
  (43, 3, .getfield 9, [1, 1, 2, 104, 1, 190], 0),
  (46, 1, .iload_n 1, [], 0),
  (47, 1, .iaload, [], 0),
  (48, 3, .invokevirtual 116, [30, 3, 1, 2, 611], 0),
  (51, 3, .invokevirtual 70, [9, 3, 0, 1, 430], 0),
  (54, 1, .return_, [], 0)]
def cK_enter : List am_W := [(0, 1, .aload_n 0, [], 0),
  (1, 3, .getfield 9, [1, 1, 2, 104, 1, 190], 0),
  (4, 1, .iload_n 1, [], 0),
  (5, 1, .iload_n 2, [], 0),
  (6, 1, .iastore, [], 0),
  (7, 1, .aload_n 0, [], 0),
  (8, 3, .getfield 56, [0, 1, 14, 0, 0, 211], 0),
  (11, 2, .bipush 44, [], 44),
  (13, 3, .if_icmp .lt 4, [10], 0),
  (16, 1, .return_, [], 0),
  (17, 1, .aload_n 0, [], 0),
  (18, 3, .getfield 36, [1, 1, 10, 144, 9, 205], 0),
  (21, 1, .aload_n 0, [], 0),
  (22, 3, .getfield 56, [0, 1, 14, 0, 0, 211], 0),
  (25, 1, .iload_n 1, [], 0),
  (26, 1, .iastore, [], 0),
  (27, 1, .aload_n 0, [], 0),
  (28, 3, .getfield 39, [1, 1, 11, 144, 10, 207], 0),
  (31, 1, .aload_n 0, [], 0),
  (32, 3, .getfield 56, [0, 1, 14, 0, 0, 211], 0),
  (35, 1, .iload_n 2, [], 0),
  (36, 1, .iastore, [], 0),
  (37, 1, .aload_n 0, [], 0),
  (38, 3, .getfield 42, [1, 1, 12, 144, 11, 209], 0),
  (41, 1, .aload_n 0, [], 0),
  (42, 3, .getfield 56, [0, 1, 14, 0, 0, 211], 0),
  (45, 1, .aload_n 0, [], 0),
  (46, 3, .getfield 15, [1, 1, 3, 104, 2, 192], 0),
  (49, 1, .iload_n 1, [], 0),
  (50, 1, .iaload, [], 0),
  (51, 1, .iastore, [], 0),
  (52, 1, .aload_n 0, [], 0),
  (53, 3, .getfield 45, [1, 1, 13, 144, 12, 210], 0),
  (56, 1, .aload_n 0, [], 0),
  (57, 3, .getfield 56, [0, 1, 14, 0, 0, 211], 0),
  (60, 1, .aload_n 0, [], 0),
  (61, 3, .getfield 15, [1, 1, 3, 104, 2, 192], 0),
  (64, 1, .iload_n 1, [], 0),
  (65, 1, .iaload, [], 0),
  (66, 1, .iastore, [], 0),
  (67, 1, .aload_n 0, [], 0),
  (68, 3, .getfield 21, [1, 1, 5, 104, 4, 196], 0),
  (71, 1, .iload_n 1, [], 0),
  (72, 1, .aload_n 0, [], 0),
  (73, 3, .getfield 56, [0, 1, 14, 0, 0, 211], 0),
  (76, 1, .iastore, [], 0),
  (77, 1, .aload_n 0, [], 0),
  (78, 1, .dup, [], 0),
  (79, 3, .getfield 56, [0, 1, 14, 0, 0, 211], 0),
  (82, 1, .iconst 1, [], 1),
  (83, 1, .iadd, [], 0),
  (84, 3, .putfield 56, [0, 1, 14, 0, 0, 211], 0),
  (87, 1, .return_, [], 0)]
def cK_pick : List am_W := [(0, 1, .aload_n 0, [], 0),
  (1, 3, .getfield 33, [1, 1, 9, 105, 8, 203], 0),
  (4, 1, .iload_n 2, [], 0),
  (5, 1, .aload_n 0, [], 0),
  (6, 1, .iload_n 2, [], 0),
  (7, 1, .aload_n 0, [], 0),
  (8, 3, .getfield 15, [1, 1, 3, 104, 2, 192], 0),
  (11, 1, .iload_n 1, [], 0),
  (12, 1, .iaload, [], 0),
  (13, 3, .invokevirtual 119, [14, 3, 1, 1, 623], 0),
  (16, 1, .iastore, [], 0),
  (17, 1, .aload_n 0, [], 0),
  (18, 3, .getfield 24, [1, 1, 6, 105, 5, 197], 0),
  (21, 1, .iload_n 2, [], 0),
  (22, 2, .bipush (-4), [], (-4)),
  (24, 1, .iastore, [], 0),
  (25, 1, .aload_n 0, [], 0),
  (26, 3, .getfield 27, [1, 1, 7, 105, 6, 199], 0),
  (29, 1, .iload_n 2, [], 0),
  (30, 1, .iload_n 1, [], 0),
  (31, 1, .iastore, [], 0),
  (32, 1, .return_, [], 0)]
def cK_drop : List am_W := [(0, 1, .aload_n 0, [], 0),
  (1, 3, .getfield 24, [1, 1, 6, 105, 5, 197], 0),
  (4, 1, .iload_n 2, [], 0),
  (5, 1, .aload_n 0, [], 0),
  (6, 3, .getfield 9, [1, 1, 2, 104, 1, 190], 0),
  (9, 1, .iload_n 1, [], 0),
  (10, 1, .iaload, [], 0),
  (11, 1, .iastore, [], 0),
  (12, 1, .aload_n 0, [], 0),
  (13, 3, .getfield 27, [1, 1, 7, 105, 6, 199], 0),
  (16, 1, .iload_n 2, [], 0),
  (17, 2, .bipush (-4), [], (-4)),
  (19, 1, .iastore, [], 0),
  (20, 1, .aload_n 0, [], 0),
  (21, 3, .getfield 30, [1, 1, 8, 105, 7, 201], 0),
  (24, 1, .iload_n 2, [], 0),
  (25, 1, .aload_n 0, [], 0),
  (26, 3, .getfield 15, [1, 1, 3, 104, 2, 192], 0),
  (29, 1, .iload_n 1, [], 0),
  (30, 1, .iaload, [], 0),
  (31, 1, .iastore, [], 0),
  (32, 1, .return_, [], 0)]
def cK_hourTicksOf : List am_W := [(0, 1, .iload_n 1, [], 0),
  (1, 1, .aload_n 0, [], 0),
  (2, 3, .getfield 52, [0, 1, 1, 0, 0, 189], 0),
  (5, 3, .if_icmp .ne 8, [6], 0),
  (8, 2, .bipush 12, [], 12),
  (10, 3, .goto 12, [11], 0),
  (13, 1, .aload_n 0, [], 0),
  (14, 3, .getfield 48, [2, 1, 0, 2, 0, 188], 0),
  (17, 3, .getfield 122, [1, 2, 3, 106, 4, 100], 0),
  (20, 1, .iload_n 1, [], 0),
  (21, 1, .iaload, [], 0),
  (22, 1, .ireturn, [0], 0)]
def cK_partsOfTickIn : List am_W := [(0, 1, .iload_n 1, [], 0),
  (1, 1, .aload_n 0, [], 0),
  (2, 3, .getfield 52, [0, 1, 1, 0, 0, 189], 0),
  (5, 3, .if_icmp .ne 8, [6], 0),
  (8, 2, .bipush 12, [], 12),
  (10, 3, .goto 12, [11], 0),
  (13, 1, .aload_n 0, [], 0),
  (14, 3, .getfield 48, [2, 1, 0, 2, 0, 188], 0),
  (17, 3, .getfield 125, [1, 2, 4, 106, 5, 102], 0),
  (20, 1, .iload_n 1, [], 0),
  (21, 1, .iaload, [], 0),
  (22, 1, .ireturn, [0], 0)]
def cK_wornAt : List am_W := [(0, 1, .aload_n 0, [], 0),
  (1, 3, .getfield 24, [1, 1, 6, 105, 5, 197], 0),
  (4, 1, .iload_n 1, [], 0),
  (5, 1, .iaload, [], 0),
  (6, 2, .bipush (-4), [], (-4)),
  (8, 3, .if_icmp .ne 12, [11], 0),
  (11, 1, .aload_n 0, [], 0),
  (12, 3, .getfield 33, [1, 1, 9, 105, 8, 203], 0),
  (15, 1, .iload_n 1, [], 0),
  (16, 1, .iaload, [], 0),
  (17, 3, .goto 29, [29], 0),
  (20, 1, .aload_n 0, [], 0),
  (21, 3, .getfield 33, [1, 1, 9, 105, 8, 203], 0),
  (24, 1, .iload_n 1, [], 0),
  (25, 1, .iaload, [], 0),
  (26, 1, .iload_n 2, [], 0),
  (27, 1, .aload_n 0, [], 0),
  (28, 3, .getfield 30, [1, 1, 8, 105, 7, 201], 0),
  (31, 1, .iload_n 1, [], 0),
  (32, 1, .iaload, [], 0),
  (33, 1, .isub, [], 0),
  (34, 1, .aload_n 0, [], 0),
  (35, 1, .aload_n 0, [], 0),
  (36, 3, .getfield 24, [1, 1, 6, 105, 5, 197], 0),
  (39, 1, .iload_n 1, [], 0),
  (40, 1, .iaload, [], 0),
  (41, 3, .invokevirtual 128, [13, 2, 1, 1, 562], 0),
  (44, 1, .imul, [], 0),
  (45, 1, .iadd, [], 0),
  (46, 1, .ireturn, [0], 0)]
def cK_thingsOf : List am_W := [(0, 1, .iconst 0, [], 0),
  (1, 1, .istore_n 2, [], 0),
  (2, 1, .iconst 0, [], 0),
  (3, 1, .istore_n 3, [], 0),
  (4, 0, .nop, [5], 0),
  (4, 1, .iload_n 3, [], 0),
  (5, 1, .aload_n 0, [], 0),
  (6, 3, .getfield 48, [2, 1, 0, 2, 0, 188], 0),
  (9, 3, .getfield 74, [0, 2, 17, 0, 0, 136], 0),
  (12, 3, .if_icmp .ge 25, [24], 0),
  (15, 1, .aload_n 0, [], 0),
  (16, 3, .getfield 27, [1, 1, 7, 105, 6, 199], 0),
  (19, 1, .iload_n 3, [], 0),
  (20, 1, .iaload, [], 0),
  (21, 1, .iload_n 1, [], 0),
  (22, 3, .if_icmp .ne 9, [22], 0),
  (25, 1, .iload_n 2, [], 0),
  (26, 1, .iconst 1, [], 1),
  (27, 1, .iload_n 3, [], 0),
  (28, 1, .ishl, [], 0),
  (29, 1, .ior, [], 0),
  (30, 1, .istore_n 2, [], 0),
  (31, 3, .iinc 3 1, [], 1),
  (34, 3, .goto (-30), [4], 0),
  (37, 1, .iload_n 2, [], 0),
  (38, 1, .ireturn, [0], 0)]
def cK_visitsOf : List am_W := [(0, 1, .iconst 0, [], 0),
  (1, 1, .istore_n 2, [], 0),
  (2, 1, .iconst 0, [], 0),
  (3, 1, .istore_n 3, [], 0),
  (4, 0, .nop, [5], 0),
  (4, 1, .iload_n 3, [], 0),
  (5, 1, .aload_n 0, [], 0),
  (6, 3, .getfield 56, [0, 1, 14, 0, 0, 211], 0),
  (9, 3, .if_icmp .ge 22, [18], 0),
  (12, 1, .aload_n 0, [], 0),
  (13, 3, .getfield 36, [1, 1, 10, 144, 9, 205], 0),
  (16, 1, .iload_n 3, [], 0),
  (17, 1, .iaload, [], 0),
  (18, 1, .iload_n 1, [], 0),
  (19, 3, .if_icmp .ne 6, [16], 0),
  (22, 3, .iinc 2 1, [], 1),
  (25, 3, .iinc 3 1, [], 1),
  (28, 3, .goto (-24), [4], 0),
  (31, 1, .iload_n 2, [], 0),
  (32, 1, .ireturn, [0], 0)]
def cK_firstShared : List am_W := [(0, 1, .aload_n 0, [], 0),
  (1, 3, .getfield 42, [1, 1, 12, 144, 11, 209], 0),
  (4, 1, .iload_n 1, [], 0),
  (5, 1, .iaload, [], 0),
  (6, 1, .aload_n 0, [], 0),
  (7, 3, .getfield 42, [1, 1, 12, 144, 11, 209], 0),
  (10, 1, .iload_n 2, [], 0),
  (11, 1, .iaload, [], 0),
  (12, 3, .invokestatic 131, [166, 2, 1, 0, 670], 0),
  (15, 1, .istore_n 3, [], 0),
  (16, 1, .aload_n 0, [], 0),
  (17, 3, .getfield 39, [1, 1, 11, 144, 10, 207], 0),
  (20, 1, .iload_n 1, [], 0),
  (21, 1, .iaload, [], 0),
  (22, 1, .aload_n 0, [], 0),
  (23, 3, .getfield 39, [1, 1, 11, 144, 10, 207], 0),
  (26, 1, .iload_n 2, [], 0),
  (27, 1, .iaload, [], 0),
  (28, 3, .if_icmp .ne 26, [32], 0),
  (31, 1, .iload_n 3, [], 0),
  (32, 1, .aload_n 0, [], 0),
  (33, 3, .getfield 45, [1, 1, 13, 144, 12, 210], 0),
  (36, 1, .iload_n 1, [], 0),
  (37, 1, .iaload, [], 0),
  (38, 1, .aload_n 0, [], 0),
  (39, 3, .getfield 45, [1, 1, 13, 144, 12, 210], 0),
  (42, 1, .iload_n 2, [], 0),
  (43, 1, .iaload, [], 0),
  (44, 3, .invokestatic 136, [167, 2, 1, 0, 671], 0),
  (47, 3, .if_icmp .gt 7, [32], 0),
  (50, 1, .iload_n 3, [], 0),
  (51, 3, .goto 5, [33], 0),
  (54, 2, .ldc 139, [672], 536870912),
  (56, 1, .ireturn, [0], 0)]
def cH_readText : List am_W := [(0, 1, .aload_n 0, [], 0),
  (1, 1, .iconst 0, [], 0),
  (2, 3, .putfield 54, [0, 2, 14, 0, 0, 124], 0),
  (5, 1, .aload_n 0, [], 0),
  (6, 1, .iconst 0, [], 0),
  (7, 3, .putfield 58, [0, 2, 15, 0, 0, 128], 0),
  (10, 1, .aload_n 0, [], 0),
  (11, 1, .iconst 0, [], 0),
  (12, 3, .putfield 61, [0, 2, 16, 0, 0, 132], 0),
  (15, 1, .aload_n 0, [], 0),
  (16, 1, .iconst 0, [], 0),
  (17, 3, .putfield 64, [0, 2, 17, 0, 0, 135], 0),
  (20, 1, .aload_n 0, [], 0),
  (21, 1, .iconst 1, [], 1),
  (22, 3, .putfield 67, [0, 2, 18, 0, 0, 138], 0),
  (25, 1, .iconst 0, [], 0),
  (26, 1, .istore_n 3, [], 0),
  (27, 1, .iconst 0, [], 0),
  (28, 2, .istore 4, [], 0),
  (30, 0, .nop, [20], 0),
  (30, 2, .iload 4, [], 0),
  (32, 1, .iload_n 2, [], 0),
  (33, 3, .if_icmp .ge 35, [41], 0),
  (36, 1, .iload_n 3, [], 0),
  (37, 1, .iload_n 2, [], 0),
  (38, 3, .if_icmp .ge 30, [41], 0),
  (41, 1, .aload_n 0, [], 0),
  (42, 1, .aload_n 1, [], 0),
  (43, 1, .iload_n 2, [], 0),
  (44, 1, .iload_n 3, [], 0),
  (45, 3, .invokevirtual 70, [19, 4, 1, 2, 385], 0),
  (48, 2, .istore 5, [], 0),
  (50, 2, .iload 5, [], 0),
  (52, 2, .bipush (-4), [], (-4)),
  (54, 3, .if_icmp .ne 5, [37], 0),
  (57, 1, .iload_n 3, [], 0),
  (58, 1, .ireturn, [0], 0),
  (59, 2, .iload 5, [], 0),
  (61, 1, .istore_n 3, [], 0),
  (62, 3, .iinc 4 1, [], 1),
  (65, 3, .goto (-35), [19], 0),
  (68, 2, .bipush (-4), [], (-4)),
  (70, 1, .ireturn, [0], 0)]
def cH_readItem : List am_W := [(0, 1, .aload_n 1, [], 0),
  (1, 1, .iload_n 3, [], 0),
  (2, 1, .caload, [], 0),
  (3, 2, .istore 4, [], 0),
  (5, 2, .iload 4, [], 0),
  (7, 3, .invokestatic 74, [20, 1, 1, 0, 389], 0),
  (10, 2, .istore 5, [], 0),
  (12, 1, .iload_n 3, [], 0),
  (13, 1, .iconst 1, [], 1),
  (14, 1, .iadd, [], 0),
  (15, 2, .istore 6, [], 0),
  (17, 1, .iconst 0, [], 0),
  (18, 2, .istore 7, [], 0),
  (20, 0, .nop, [14], 0),
  (20, 2, .iload 7, [], 0),
  (22, 2, .iload 5, [], 0),
  (24, 3, .if_icmp .ge 83, [58], 0),
  (27, 1, .aload_n 1, [], 0),
  (28, 1, .iload_n 2, [], 0),
  (29, 2, .iload 6, [], 0),
  (31, 3, .invokestatic 78, [21, 3, 1, 0, 392], 0),
  (34, 2, .istore 8, [], 0),
  (36, 2, .iload 8, [], 0),
  (38, 3, .ifCond .ne 6, [26], 0),
  (41, 2, .bipush (-4), [], (-4)),
  (43, 1, .ireturn, [0], 0),
  (44, 1, .aload_n 0, [], 0),
  (45, 3, .getfield 51, [1, 2, 13, 104, 14, 123], 0),
  (48, 2, .iload 7, [], 0),
  (50, 1, .aload_n 1, [], 0),
  (51, 2, .iload 6, [], 0),
  (53, 2, .iload 8, [], 0),
  (55, 3, .invokestatic 81, [22, 3, 1, 0, 395], 0),
  (58, 1, .iastore, [], 0),
  (59, 2, .iload 6, [], 0),
  (61, 2, .iload 8, [], 0),
  (63, 1, .iadd, [], 0),
  (64, 2, .istore 6, [], 0),
  (66, 2, .iload 6, [], 0),
  (68, 1, .iload_n 2, [], 0),
  (69, 3, .if_icmp .ge 26, [53], 0),
  (72, 1, .aload_n 1, [], 0),
  (73, 2, .iload 6, [], 0),
  (75, 1, .caload, [], 0),
  (76, 2, .iload 7, [], 0),
  (78, 1, .iconst 1, [], 1),
  (79, 1, .iadd, [], 0),
  (80, 2, .iload 5, [], 0),
  (82, 3, .if_icmp .ge 8, [51], 0),
  (85, 2, .bipush 44, [], 44),
  (87, 3, .goto 5, [52], 0),
  (90, 2, .bipush 59, [], 59),
  (92, 3, .if_icmp .eq 6, [55], 0),
  (95, 2, .bipush (-4), [], (-4)),
  (97, 1, .ireturn, [0], 0),
  (98, 3, .iinc 6 1, [], 1),
  (101, 3, .iinc 7 1, [], 1),
  (104, 3, .goto (-84), [13], 0),
  (107, 1, .aload_n 0, [], 0),
  (108, 2, .iload 4, [], 0),
  (110, 3, .invokevirtual 84, [23, 2, 1, 2, 398], 0),
  (113, 3, .ifCond .eq 8, [64], 0),
  (116, 2, .iload 6, [], 0),
  (118, 3, .goto 5, [65], 0),
  (121, 2, .bipush (-4), [], (-4)),
  (123, 1, .ireturn, [0], 0)]
def cH_numbersOf : List am_W := [(0, 1, .iload_n 0, [], 0),
  (1, 51, .lookupswitch 61 #[(100, 53), (112, 55), (114, 51), (116, 57), (119, 59)], [12, 100, 4, 112, 6, 114, 2, 116, 8, 119, 10], 0),
  (52, 1, .iconst 3, [], 3),
  (53, 1, .ireturn, [0], 0),
  (54, 1, .iconst 4, [], 4),
  (55, 1, .ireturn, [0], 0),
  (56, 1, .iconst 2, [], 2),
  (57, 1, .ireturn, [0], 0),
  (58, 1, .iconst 3, [], 3),
  (59, 1, .ireturn, [0], 0),
  (60, 1, .iconst 1, [], 1),
  (61, 1, .ireturn, [0], 0),
  (62, 1, .iconst 0, [], 0),
  (63, 1, .ireturn, [0], 0)]
def cH_figuresAt : List am_W := [(0, 1, .iconst 0, [], 0),
  (1, 1, .istore_n 3, [], 0),
  (2, 1, .iload_n 2, [], 0),
  (3, 2, .istore 4, [], 0),
  (5, 0, .nop, [5], 0),
  (5, 2, .iload 4, [], 0),
  (7, 1, .iload_n 1, [], 0),
  (8, 3, .if_icmp .ge 35, [24], 0),
  (11, 1, .iload_n 3, [], 0),
  (12, 1, .iconst 2, [], 2),
  (13, 3, .if_icmp .ge 30, [24], 0),
  (16, 1, .aload_n 0, [], 0),
  (17, 2, .iload 4, [], 0),
  (19, 1, .caload, [], 0),
  (20, 2, .bipush 48, [], 48),
  (22, 3, .if_icmp .lt 21, [24], 0),
  (25, 1, .aload_n 0, [], 0),
  (26, 2, .iload 4, [], 0),
  (28, 1, .caload, [], 0),
  (29, 2, .bipush 57, [], 57),
  (31, 3, .if_icmp .gt 12, [24], 0),
  (34, 3, .iinc 3 1, [], 1),
  (37, 3, .iinc 4 1, [], 1),
  (40, 3, .goto (-35), [4], 0),
  (43, 1, .iload_n 3, [], 0),
  (44, 1, .ireturn, [0], 0)]
def cH_numberAt : List am_W := [(0, 1, .iconst 0, [], 0),
  (1, 1, .istore_n 3, [], 0),
  (2, 1, .iconst 0, [], 0),
  (3, 2, .istore 4, [], 0),
  (5, 0, .nop, [5], 0),
  (5, 2, .iload 4, [], 0),
  (7, 1, .iload_n 2, [], 0),
  (8, 3, .if_icmp .ge 24, [22], 0),
  (11, 2, .bipush 10, [], 10),
  (13, 1, .iload_n 3, [], 0),
  (14, 1, .imul, [], 0),
  (15, 1, .aload_n 0, [], 0),
  (16, 1, .iload_n 1, [], 0),
  (17, 2, .iload 4, [], 0),
  (19, 1, .iadd, [], 0),
  (20, 1, .caload, [], 0),
  (21, 2, .bipush 48, [], 48),
  (23, 1, .isub, [], 0),
  (24, 1, .iadd, [], 0),
  (25, 1, .istore_n 3, [], 0),
  (26, 3, .iinc 4 1, [], 1),
  (29, 3, .goto (-24), [4], 0),
  (32, 1, .iload_n 3, [], 0),
  (33, 1, .ireturn, [0], 0)]
def cH_addItem : List am_W := [(0, 1, .iload_n 1, [], 0),
  (1, 51, .lookupswitch 154 #[(100, 74), (112, 103), (114, 51), (116, 120), (119, 143)], [69, 100, 17, 112, 36, 114, 2, 116, 47, 119, 62], 0),
  (52, 1, .aload_n 0, [], 0),
  (53, 1, .aload_n 0, [], 0),
  (54, 3, .getfield 51, [1, 2, 13, 104, 14, 123], 0),
  (57, 1, .iconst 0, [], 0),
  (58, 1, .iaload, [], 0),
  (59, 1, .aload_n 0, [], 0),
  (60, 3, .getfield 51, [1, 2, 13, 104, 14, 123], 0),
  (63, 1, .iconst 1, [], 1),
  (64, 1, .iaload, [], 0),
  (65, 1, .aload_n 0, [], 0),
  (66, 3, .getfield 51, [1, 2, 13, 104, 14, 123], 0),
  (69, 1, .iconst 2, [], 2),
  (70, 1, .iaload, [], 0),
  (71, 3, .invokevirtual 88, [24, 4, 1, 2, 402], 0),
  (74, 1, .ireturn, [1], 0),
  (75, 1, .aload_n 0, [], 0),
  (76, 1, .aload_n 0, [], 0),
  (77, 3, .getfield 51, [1, 2, 13, 104, 14, 123], 0),
  (80, 1, .iconst 0, [], 0),
  (81, 1, .iaload, [], 0),
  (82, 1, .aload_n 0, [], 0),
  (83, 3, .getfield 51, [1, 2, 13, 104, 14, 123], 0),
  (86, 1, .iconst 1, [], 1),
  (87, 1, .iaload, [], 0),
  (88, 1, .aload_n 0, [], 0),
  (89, 3, .getfield 51, [1, 2, 13, 104, 14, 123], 0),
  (92, 1, .iconst 2, [], 2),
  (93, 1, .iaload, [], 0),
  (94, 1, .aload_n 0, [], 0),
  (95, 3, .getfield 51, [1, 2, 13, 104, 14, 123], 0),
  (98, 1, .iconst 3, [], 3),
  (99, 1, .iaload, [], 0),
  (100, 3, .invokevirtual 92, [25, 5, 1, 2, 406], 0),
  (103, 1, .ireturn, [1], 0),
  (104, 1, .aload_n 0, [], 0),
  (105, 1, .aload_n 0, [], 0),
  (106, 3, .getfield 51, [1, 2, 13, 104, 14, 123], 0),
  (109, 1, .iconst 0, [], 0),
  (110, 1, .iaload, [], 0),
  (111, 1, .aload_n 0, [], 0),
  (112, 3, .getfield 51, [1, 2, 13, 104, 14, 123], 0),
  (115, 1, .iconst 1, [], 1),
  (116, 1, .iaload, [], 0),
  (117, 3, .invokevirtual 96, [26, 3, 1, 2, 410], 0),
  (120, 1, .ireturn, [1], 0),
  (121, 1, .aload_n 0, [], 0),
  (122, 1, .aload_n 0, [], 0),
  (123, 3, .getfield 51, [1, 2, 13, 104, 14, 123], 0),
  (126, 1, .iconst 0, [], 0),
  (127, 1, .iaload, [], 0),
  (128, 1, .aload_n 0, [], 0),
  (129, 3, .getfield 51, [1, 2, 13, 104, 14, 123], 0),
  (132, 1, .iconst 1, [], 1),
  (133, 1, .iaload, [], 0),
  (134, 1, .aload_n 0, [], 0),
  (135, 3, .getfield 51, [1, 2, 13, 104, 14, 123], 0),
  (138, 1, .iconst 2, [], 2),
  (139, 1, .iaload, [], 0),
  (140, 3, .invokevirtual 100, [27, 4, 1, 2, 414], 0),
  (143, 1, .ireturn, [1], 0),
  (144, 1, .aload_n 0, [], 0),
  (145, 1, .aload_n 0, [], 0),
  (146, 3, .getfield 51, [1, 2, 13, 104, 14, 123], 0),
  (149, 1, .iconst 0, [], 0),
  (150, 1, .iaload, [], 0),
  (151, 3, .invokevirtual 103, [28, 2, 1, 2, 418], 0),
  (154, 1, .ireturn, [1], 0),
  (155, 1, .iconst 0, [], 0),
  (156, 1, .ireturn, [1], 0)]
def cH_addRoom : List am_W := [(0, 1, .aload_n 0, [], 0),
  (1, 3, .getfield 54, [0, 2, 14, 0, 0, 124], 0),
  (4, 2, .bipush 6, [], 6),
  (6, 3, .if_icmp .ge 29, [19], 0),
  (9, 1, .iload_n 1, [], 0),
  (10, 1, .iconst 1, [], 1),
  (11, 3, .if_icmp .lt 24, [19], 0),
  (14, 1, .iload_n 1, [], 0),
  (15, 1, .iconst 4, [], 4),
  (16, 3, .if_icmp .gt 19, [19], 0),
  (19, 1, .iload_n 2, [], 0),
  (20, 1, .iconst 1, [], 1),
  (21, 3, .if_icmp .lt 14, [19], 0),
  (24, 1, .iload_n 2, [], 0),
  (25, 1, .iconst 4, [], 4),
  (26, 3, .if_icmp .gt 9, [19], 0),
  (29, 1, .iload_n 3, [], 0),
  (30, 2, .bipush 24, [], 24),
  (32, 3, .if_icmp .lt 5, [21], 0),
  (35, 1, .iconst 0, [], 0),
  (36, 1, .ireturn, [1], 0),
  (37, 1, .aload_n 0, [], 0),
  (38, 3, .getfield 9, [1, 2, 0, 106, 1, 91], 0),
  (41, 1, .aload_n 0, [], 0),
  (42, 3, .getfield 54, [0, 2, 14, 0, 0, 124], 0),
  (45, 1, .iload_n 1, [], 0),
  (46, 1, .iastore, [], 0),
  (47, 1, .aload_n 0, [], 0),
  (48, 3, .getfield 15, [1, 2, 1, 106, 2, 93], 0),
  (51, 1, .aload_n 0, [], 0),
  (52, 3, .getfield 54, [0, 2, 14, 0, 0, 124], 0),
  (55, 1, .iload_n 2, [], 0),
  (56, 1, .iastore, [], 0),
  (57, 1, .aload_n 0, [], 0),
  (58, 3, .getfield 18, [1, 2, 2, 106, 3, 95], 0),
  (61, 1, .aload_n 0, [], 0),
  (62, 3, .getfield 54, [0, 2, 14, 0, 0, 124], 0),
  (65, 1, .iload_n 3, [], 0),
  (66, 1, .iastore, [], 0),
  (67, 1, .aload_n 0, [], 0),
  (68, 3, .getfield 21, [1, 2, 3, 106, 4, 97], 0),
  (71, 1, .aload_n 0, [], 0),
  (72, 3, .getfield 54, [0, 2, 14, 0, 0, 124], 0),
  (75, 2, .bipush 12, [], 12),
  (77, 1, .iload_n 2, [], 0),
  (78, 1, .imul, [], 0),
  (79, 1, .iload_n 1, [], 0),
  (80, 1, .idiv, [], 0),
  (81, 1, .iastore, [], 0),
  (82, 1, .aload_n 0, [], 0),
  (83, 3, .getfield 24, [1, 2, 4, 106, 5, 101], 0),
  (86, 1, .aload_n 0, [], 0),
  (87, 3, .getfield 54, [0, 2, 14, 0, 0, 124], 0),
  (90, 2, .bipush 12, [], 12),
  (92, 1, .iload_n 1, [], 0),
  (93, 1, .imul, [], 0),
  (94, 1, .iload_n 2, [], 0),
  (95, 1, .idiv, [], 0),
  (96, 1, .iastore, [], 0),
  (97, 1, .aload_n 0, [], 0),
  (98, 1, .dup, [], 0),
  (99, 3, .getfield 54, [0, 2, 14, 0, 0, 124], 0),
  (102, 1, .iconst 1, [], 1),
  (103, 1, .iadd, [], 0),
  (104, 3, .putfield 54, [0, 2, 14, 0, 0, 124], 0),
  (107, 1, .iconst 1, [], 1),
  (108, 1, .ireturn, [1], 0)]
def cH_addDoor : List am_W := [(0, 1, .aload_n 0, [], 0),
  (1, 3, .getfield 58, [0, 2, 15, 0, 0, 128], 0),
  (4, 2, .bipush 8, [], 8),
  (6, 3, .if_icmp .ge 36, [21], 0),
  (9, 1, .iload_n 1, [], 0),
  (10, 1, .aload_n 0, [], 0),
  (11, 3, .getfield 54, [0, 2, 14, 0, 0, 124], 0),
  (14, 3, .if_icmp .ge 28, [21], 0),
  (17, 1, .iload_n 2, [], 0),
  (18, 1, .aload_n 0, [], 0),
  (19, 3, .getfield 54, [0, 2, 14, 0, 0, 124], 0),
  (22, 3, .if_icmp .ge 20, [21], 0),
  (25, 1, .iload_n 1, [], 0),
  (26, 1, .iload_n 2, [], 0),
  (27, 3, .if_icmp .eq 15, [21], 0),
  (30, 1, .iload_n 3, [], 0),
  (31, 1, .iconst 1, [], 1),
  (32, 3, .if_icmp .gt 10, [21], 0),
  (35, 2, .iload 4, [], 0),
  (37, 2, .bipush 24, [], 24),
  (39, 3, .if_icmp .le 5, [23], 0),
  (42, 1, .iconst 0, [], 0),
  (43, 1, .ireturn, [1], 0),
  (44, 1, .aload_n 0, [], 0),
  (45, 3, .getfield 27, [1, 2, 5, 108, 6, 104], 0),
  (48, 1, .aload_n 0, [], 0),
  (49, 3, .getfield 58, [0, 2, 15, 0, 0, 128], 0),
  (52, 1, .iload_n 1, [], 0),
  (53, 1, .iastore, [], 0),
  (54, 1, .aload_n 0, [], 0),
  (55, 3, .getfield 30, [1, 2, 6, 108, 7, 107], 0),
  (58, 1, .aload_n 0, [], 0),
  (59, 3, .getfield 58, [0, 2, 15, 0, 0, 128], 0),
  (62, 1, .iload_n 2, [], 0),
  (63, 1, .iastore, [], 0),
  (64, 1, .aload_n 0, [], 0),
  (65, 3, .getfield 33, [1, 2, 7, 108, 8, 110], 0),
  (68, 1, .aload_n 0, [], 0),
  (69, 3, .getfield 58, [0, 2, 15, 0, 0, 128], 0),
  (72, 1, .iload_n 3, [], 0),
  (73, 3, .ifCond .ne 8, [43], 0),
  (76, 2, .iload 4, [], 0),
  (78, 3, .goto 6, [45], 0),
  (81, 2, .iload 4, [], 0),
  (83, 1, .ineg, [], 0),
  (84, 1, .iastore, [], 0),
  (85, 1, .aload_n 0, [], 0),
  (86, 1, .dup, [], 0),
  (87, 3, .getfield 58, [0, 2, 15, 0, 0, 128], 0),
  (90, 1, .iconst 1, [], 1),
  (91, 1, .iadd, [], 0),
  (92, 3, .putfield 58, [0, 2, 15, 0, 0, 128], 0),
  (95, 1, .iconst 1, [], 1),
  (96, 1, .ireturn, [1], 0)]
def cH_addPerson : List am_W := [(0, 1, .aload_n 0, [], 0),
  (1, 3, .getfield 61, [0, 2, 16, 0, 0, 132], 0),
  (4, 1, .iconst 4, [], 4),
  (5, 3, .if_icmp .ge 11, [8], 0),
  (8, 1, .iload_n 1, [], 0),
  (9, 1, .aload_n 0, [], 0),
  (10, 3, .getfield 54, [0, 2, 14, 0, 0, 124], 0),
  (13, 3, .if_icmp .lt 5, [10], 0),
  (16, 1, .iconst 0, [], 0),
  (17, 1, .ireturn, [1], 0),
  (18, 1, .aload_n 0, [], 0),
  (19, 3, .getfield 36, [1, 2, 8, 104, 9, 113], 0),
  (22, 1, .aload_n 0, [], 0),
  (23, 3, .getfield 61, [0, 2, 16, 0, 0, 132], 0),
  (26, 1, .iload_n 1, [], 0),
  (27, 1, .iastore, [], 0),
  (28, 1, .aload_n 0, [], 0),
  (29, 3, .getfield 39, [1, 2, 9, 104, 10, 115], 0),
  (32, 1, .aload_n 0, [], 0),
  (33, 3, .getfield 61, [0, 2, 16, 0, 0, 132], 0),
  (36, 1, .iload_n 2, [], 0),
  (37, 1, .iastore, [], 0),
  (38, 1, .aload_n 0, [], 0),
  (39, 1, .dup, [], 0),
  (40, 3, .getfield 61, [0, 2, 16, 0, 0, 132], 0),
  (43, 1, .iconst 1, [], 1),
  (44, 1, .iadd, [], 0),
  (45, 3, .putfield 61, [0, 2, 16, 0, 0, 132], 0),
  (48, 1, .iconst 1, [], 1),
  (49, 1, .ireturn, [1], 0)]
def cH_addThing : List am_W := [(0, 1, .aload_n 0, [], 0),
  (1, 3, .getfield 64, [0, 2, 17, 0, 0, 135], 0),
  (4, 1, .iconst 5, [], 5),
  (5, 3, .if_icmp .ge 21, [14], 0),
  (8, 1, .iload_n 1, [], 0),
  (9, 1, .aload_n 0, [], 0),
  (10, 3, .getfield 54, [0, 2, 14, 0, 0, 124], 0),
  (13, 3, .if_icmp .ge 13, [14], 0),
  (16, 1, .iload_n 2, [], 0),
  (17, 1, .iconst 3, [], 3),
  (18, 3, .if_icmp .gt 8, [14], 0),
  (21, 1, .iload_n 3, [], 0),
  (22, 1, .iconst 1, [], 1),
  (23, 3, .if_icmp .ge 5, [16], 0),
  (26, 1, .iconst 0, [], 0),
  (27, 1, .ireturn, [1], 0),
  (28, 1, .aload_n 0, [], 0),
  (29, 3, .getfield 42, [1, 2, 10, 105, 11, 117], 0),
  (32, 1, .aload_n 0, [], 0),
  (33, 3, .getfield 64, [0, 2, 17, 0, 0, 135], 0),
  (36, 1, .iload_n 1, [], 0),
  (37, 1, .iastore, [], 0),
  (38, 1, .aload_n 0, [], 0),
  (39, 3, .getfield 45, [1, 2, 11, 105, 12, 119], 0),
  (42, 1, .aload_n 0, [], 0),
  (43, 3, .getfield 64, [0, 2, 17, 0, 0, 135], 0),
  (46, 1, .iload_n 2, [], 0),
  (47, 1, .iastore, [], 0),
  (48, 1, .aload_n 0, [], 0),
  (49, 3, .getfield 48, [1, 2, 12, 105, 13, 121], 0),
  (52, 1, .aload_n 0, [], 0),
  (53, 3, .getfield 64, [0, 2, 17, 0, 0, 135], 0),
  (56, 1, .iload_n 3, [], 0),
  (57, 1, .iastore, [], 0),
  (58, 1, .aload_n 0, [], 0),
  (59, 1, .dup, [], 0),
  (60, 3, .getfield 64, [0, 2, 17, 0, 0, 135], 0),
  (63, 1, .iconst 1, [], 1),
  (64, 1, .iadd, [], 0),
  (65, 3, .putfield 64, [0, 2, 17, 0, 0, 135], 0),
  (68, 1, .iconst 1, [], 1),
  (69, 1, .ireturn, [1], 0)]
def cH_setCrossing : List am_W := [(0, 1, .iload_n 1, [], 0),
  (1, 1, .iconst 3, [], 3),
  (2, 3, .if_icmp .le 5, [5], 0),
  (5, 1, .iconst 0, [], 0),
  (6, 1, .ireturn, [1], 0),
  (7, 1, .aload_n 0, [], 0),
  (8, 1, .iload_n 1, [], 0),
  (9, 3, .putfield 67, [0, 2, 18, 0, 0, 138], 0),
  (12, 1, .iconst 1, [], 1),
  (13, 1, .ireturn, [1], 0)]
def cH_isDoorOf : List am_W := [(0, 1, .aload_n 0, [], 0),
  (1, 3, .getfield 27, [1, 2, 5, 108, 6, 104], 0),
  (4, 1, .iload_n 1, [], 0),
  (5, 1, .iaload, [], 0),
  (6, 1, .iload_n 2, [], 0),
  (7, 3, .if_icmp .eq 13, [12], 0),
  (10, 1, .aload_n 0, [], 0),
  (11, 3, .getfield 30, [1, 2, 6, 108, 7, 107], 0),
  (14, 1, .iload_n 1, [], 0),
  (15, 1, .iaload, [], 0),
  (16, 1, .iload_n 2, [], 0),
  (17, 3, .if_icmp .ne 7, [14], 0),
  (20, 1, .iconst 1, [], 1),
  (21, 3, .goto 4, [15], 0),
  (24, 1, .iconst 0, [], 0),
  (25, 1, .ireturn, [1], 0)]
def cH_behind : List am_W := [(0, 1, .aload_n 0, [], 0),
  (1, 3, .getfield 27, [1, 2, 5, 108, 6, 104], 0),
  (4, 1, .iload_n 1, [], 0),
  (5, 1, .iaload, [], 0),
  (6, 1, .iload_n 2, [], 0),
  (7, 3, .if_icmp .ne 12, [11], 0),
  (10, 1, .aload_n 0, [], 0),
  (11, 3, .getfield 30, [1, 2, 6, 108, 7, 107], 0),
  (14, 1, .iload_n 1, [], 0),
  (15, 1, .iaload, [], 0),
  (16, 3, .goto 9, [15], 0),
  (19, 1, .aload_n 0, [], 0),
  (20, 3, .getfield 27, [1, 2, 5, 108, 6, 104], 0),
  (23, 1, .iload_n 1, [], 0),
  (24, 1, .iaload, [], 0),
  (25, 1, .ireturn, [0], 0)]
def cH_leadTicks : List am_W := [(0, 1, .aload_n 0, [], 0),
  (1, 3, .getfield 27, [1, 2, 5, 108, 6, 104], 0),
  (4, 1, .iload_n 1, [], 0),
  (5, 1, .iaload, [], 0),
  (6, 1, .iload_n 2, [], 0),
  (7, 3, .if_icmp .ne 12, [11], 0),
  (10, 1, .aload_n 0, [], 0),
  (11, 3, .getfield 33, [1, 2, 7, 108, 8, 110], 0),
  (14, 1, .iload_n 1, [], 0),
  (15, 1, .iaload, [], 0),
  (16, 3, .goto 10, [16], 0),
  (19, 1, .aload_n 0, [], 0),
  (20, 3, .getfield 33, [1, 2, 7, 108, 8, 110], 0),
  (23, 1, .iload_n 1, [], 0),
  (24, 1, .iaload, [], 0),
  (25, 1, .ineg, [], 0),
  (26, 2, .bipush 12, [], 12),
  (28, 1, .imul, [], 0),
  (29, 1, .ireturn, [0], 0)]
def cH_ticksThrough : List am_W := [(0, 1, .aload_n 0, [], 0),
  (1, 3, .getfield 67, [0, 2, 18, 0, 0, 138], 0),
  (4, 1, .aload_n 0, [], 0),
  (5, 3, .getfield 21, [1, 2, 3, 106, 4, 97], 0),
  (8, 1, .iload_n 2, [], 0),
  (9, 1, .iaload, [], 0),
  (10, 1, .imul, [], 0),
  (11, 1, .aload_n 0, [], 0),
  (12, 1, .iload_n 1, [], 0),
  (13, 1, .iload_n 2, [], 0),
  (14, 3, .invokevirtual 106, [31, 3, 1, 2, 698], 0),
  (17, 1, .iadd, [], 0),
  (18, 1, .ireturn, [0], 0)]
def cH_worthOf : List am_W := [(0, 1, .iload_n 2, [], 0),
  (1, 3, .sipush 144, [], 144),
  (4, 1, .idiv, [], 0),
  (5, 1, .istore_n 3, [], 0),
  (6, 1, .aload_n 0, [], 0),
  (7, 3, .getfield 45, [1, 2, 11, 105, 12, 119], 0),
  (10, 1, .iload_n 1, [], 0),
  (11, 1, .iaload, [], 0),
  (12, 28, .tableswitch 64 0 2 #[28, 35, 48], [33, 0, 9, 1, 14, 2, 23], 0),
  (40, 1, .aload_n 0, [], 0),
  (41, 3, .getfield 48, [1, 2, 12, 105, 13, 121], 0),
  (44, 1, .iload_n 1, [], 0),
  (45, 1, .iaload, [], 0),
  (46, 1, .ireturn, [0], 0),
  (47, 1, .aload_n 0, [], 0),
  (48, 3, .getfield 48, [1, 2, 12, 105, 13, 121], 0),
  (51, 1, .iload_n 1, [], 0),
  (52, 1, .iaload, [], 0),
  (53, 1, .iload_n 3, [], 0),
  (54, 1, .isub, [], 0),
  (55, 1, .iconst 0, [], 0),
  (56, 3, .invokestatic 110, [166, 2, 1, 0, 570], 0),
  (59, 1, .ireturn, [0], 0),
  (60, 1, .iload_n 3, [], 0),
  (61, 1, .aload_n 0, [], 0),
  (62, 3, .getfield 48, [1, 2, 12, 105, 13, 121], 0),
  (65, 1, .iload_n 1, [], 0),
  (66, 1, .iaload, [], 0),
  (67, 3, .if_icmp .lt 7, [31], 0),
  (70, 1, .iconst 1, [], 1),
  (71, 3, .goto 4, [32], 0),
  (74, 1, .iconst 0, [], 0),
  (75, 1, .ireturn, [0], 0),
  (76, 1, .iload_n 3, [], 0),
  (77, 1, .aload_n 0, [], 0),
  (78, 3, .getfield 48, [1, 2, 12, 105, 13, 121], 0),
  (81, 1, .iload_n 1, [], 0),
  (82, 1, .iaload, [], 0),
  (83, 3, .if_icmp .ge 7, [41], 0),
  (86, 1, .iconst 1, [], 1),
  (87, 3, .goto 4, [42], 0),
  (90, 1, .iconst 0, [], 0),
  (91, 1, .ireturn, [0], 0)]
def cS_add : List am_W := [(0, 1, .aload_n 0, [], 0),
  (1, 3, .getfield 21, [0, 3, 3, 0, 0, 276], 0),
  (4, 2, .bipush 8, [], 8),
  (6, 3, .if_icmp .lt 5, [6], 0),
  (9, 1, .iconst 0, [], 0),
  (10, 1, .ireturn, [1], 0),
  (11, 1, .aload_n 0, [], 0),
  (12, 3, .getfield 9, [1, 3, 0, 108, 1, 273], 0),
  (15, 1, .aload_n 0, [], 0),
  (16, 3, .getfield 21, [0, 3, 3, 0, 0, 276], 0),
  (19, 1, .iload_n 1, [], 0),
  (20, 1, .iastore, [], 0),
  (21, 1, .aload_n 0, [], 0),
  (22, 3, .getfield 15, [1, 3, 1, 108, 2, 274], 0),
  (25, 1, .aload_n 0, [], 0),
  (26, 3, .getfield 21, [0, 3, 3, 0, 0, 276], 0),
  (29, 1, .iload_n 2, [], 0),
  (30, 1, .iastore, [], 0),
  (31, 1, .aload_n 0, [], 0),
  (32, 3, .getfield 18, [1, 3, 2, 108, 3, 275], 0),
  (35, 1, .aload_n 0, [], 0),
  (36, 3, .getfield 21, [0, 3, 3, 0, 0, 276], 0),
  (39, 1, .iload_n 3, [], 0),
  (40, 1, .iastore, [], 0),
  (41, 1, .aload_n 0, [], 0),
  (42, 1, .dup, [], 0),
  (43, 3, .getfield 21, [0, 3, 3, 0, 0, 276], 0),
  (46, 1, .iconst 1, [], 1),
  (47, 1, .iadd, [], 0),
  (48, 3, .putfield 21, [0, 3, 3, 0, 0, 276], 0),
  (51, 1, .iconst 1, [], 1),
  (52, 1, .ireturn, [1], 0)]
def cS_pacesOf : List am_W := [(0, 1, .iconst 0, [], 0),
  (1, 1, .istore_n 2, [], 0),
  (2, 1, .iconst 0, [], 0),
  (3, 1, .istore_n 3, [], 0),
  (4, 0, .nop, [5], 0),
  (4, 1, .iload_n 3, [], 0),
  (5, 2, .bipush 16, [], 16),
  (7, 3, .if_icmp .ge 24, [21], 0),
  (10, 1, .aload_n 0, [], 0),
  (11, 1, .iload_n 1, [], 0),
  (12, 1, .iload_n 3, [], 0),
  (13, 3, .invokevirtual 25, [36, 3, 1, 3, 787], 0),
  (16, 3, .ifCond .eq 9, [19], 0),
  (19, 1, .iload_n 2, [], 0),
  (20, 1, .iconst 1, [], 1),
  (21, 1, .iload_n 3, [], 0),
  (22, 1, .ishl, [], 0),
  (23, 1, .ior, [], 0),
  (24, 1, .istore_n 2, [], 0),
  (25, 3, .iinc 3 1, [], 1),
  (28, 3, .goto (-24), [4], 0),
  (31, 1, .iload_n 2, [], 0),
  (32, 1, .ireturn, [0], 0)]
def cS_isStillSo : List am_W := [(0, 1, .iconst 0, [], 0),
  (1, 1, .istore_n 3, [], 0),
  (2, 0, .nop, [3], 0),
  (2, 1, .iload_n 3, [], 0),
  (3, 1, .aload_n 0, [], 0),
  (4, 3, .getfield 21, [0, 3, 3, 0, 0, 276], 0),
  (7, 3, .if_icmp .ge 40, [28], 0),
  (10, 1, .aload_n 0, [], 0),
  (11, 3, .getfield 9, [1, 3, 0, 108, 1, 273], 0),
  (14, 1, .iload_n 3, [], 0),
  (15, 1, .iaload, [], 0),
  (16, 1, .iload_n 1, [], 0),
  (17, 3, .if_icmp .ne 24, [26], 0),
  (20, 1, .iload_n 2, [], 0),
  (21, 1, .aload_n 0, [], 0),
  (22, 3, .getfield 15, [1, 3, 1, 108, 2, 274], 0),
  (25, 1, .iload_n 3, [], 0),
  (26, 1, .iaload, [], 0),
  (27, 3, .invokestatic 29, [38, 2, 1, 0, 791], 0),
  (30, 1, .aload_n 0, [], 0),
  (31, 3, .getfield 18, [1, 3, 2, 108, 3, 275], 0),
  (34, 1, .iload_n 3, [], 0),
  (35, 1, .iaload, [], 0),
  (36, 3, .if_icmp .eq 5, [26], 0),
  (39, 1, .iconst 0, [], 0),
  (40, 1, .ireturn, [1], 0),
  (41, 3, .iinc 3 1, [], 1),
  (44, 3, .goto (-42), [2], 0),
  (47, 1, .iconst 1, [], 1),
  (48, 1, .ireturn, [1], 0)]
def cS_mostAlike : List am_W := [(0, 1, .iconst 0, [], 0),
  (1, 1, .istore_n 3, [], 0),
  (2, 1, .iconst 0, [], 0),
  (3, 2, .istore 4, [], 0),
  (5, 0, .nop, [5], 0),
  (5, 2, .iload 4, [], 0),
  (7, 2, .bipush 16, [], 16),
  (9, 3, .if_icmp .ge 80, [49], 0),
  (12, 1, .iconst 0, [], 0),
  (13, 2, .istore 5, [], 0),
  (15, 1, .iconst 0, [], 0),
  (16, 2, .istore 6, [], 0),
  (18, 0, .nop, [13], 0),
  (18, 2, .iload 6, [], 0),
  (20, 2, .bipush 16, [], 16),
  (22, 3, .if_icmp .ge 54, [43], 0),
  (25, 1, .iload_n 1, [], 0),
  (26, 2, .iload 4, [], 0),
  (28, 1, .ishr, [], 0),
  (29, 1, .iload_n 1, [], 0),
  (30, 2, .iload 6, [], 0),
  (32, 1, .ishr, [], 0),
  (33, 1, .iand, [], 0),
  (34, 1, .iconst 1, [], 1),
  (35, 1, .iand, [], 0),
  (36, 1, .iconst 1, [], 1),
  (37, 3, .if_icmp .ne 7, [29], 0),
  (40, 1, .iconst 1, [], 1),
  (41, 3, .goto 4, [30], 0),
  (44, 1, .iconst 0, [], 0),
  (45, 2, .istore 7, [], 0),
  (47, 2, .iload 7, [], 0),
  (49, 3, .ifCond .eq 21, [41], 0),
  (52, 2, .iload 4, [], 0),
  (54, 1, .iload_n 2, [], 0),
  (55, 3, .invokestatic 29, [38, 2, 1, 0, 791], 0),
  (58, 2, .iload 6, [], 0),
  (60, 1, .iload_n 2, [], 0),
  (61, 3, .invokestatic 29, [38, 2, 1, 0, 791], 0),
  (64, 3, .if_icmp .ne 6, [41], 0),
  (67, 3, .iinc 5 1, [], 1),
  (70, 3, .iinc 6 1, [], 1),
  (73, 3, .goto (-55), [12], 0),
  (76, 1, .iload_n 3, [], 0),
  (77, 2, .iload 5, [], 0),
  (79, 3, .invokestatic 33, [166, 2, 1, 0, 794], 0),
  (82, 1, .istore_n 3, [], 0),
  (83, 3, .iinc 4 1, [], 1),
  (86, 3, .goto (-81), [4], 0),
  (89, 1, .iload_n 3, [], 0),
  (90, 1, .ireturn, [0], 0)]
def cS_shownBy : List am_W := [(0, 1, .iload_n 0, [], 0),
  (1, 1, .iconst 4, [], 4),
  (2, 1, .idiv, [], 0),
  (3, 1, .iconst 1, [], 1),
  (4, 1, .iadd, [], 0),
  (5, 1, .istore_n 2, [], 0),
  (6, 1, .iload_n 0, [], 0),
  (7, 1, .iconst 4, [], 4),
  (8, 1, .irem, [], 0),
  (9, 1, .iconst 1, [], 1),
  (10, 1, .iadd, [], 0),
  (11, 1, .istore_n 3, [], 0),
  (12, 1, .iload_n 1, [], 0),
  (13, 1, .iload_n 2, [], 0),
  (14, 1, .imul, [], 0),
  (15, 1, .iload_n 3, [], 0),
  (16, 1, .iconst 1, [], 1),
  (17, 3, .invokestatic 33, [166, 2, 1, 0, 794], 0),
  (20, 1, .idiv, [], 0),
  (21, 1, .ireturn, [0], 0)]
def cT_goAll : List am_W := [(0, 1, .aload_n 0, [], 0),
  (1, 2, .ldc 18, [726], 536870912),
  (3, 3, .putfield 19, [0, 4, 2, 0, 0, 316], 0),
  (6, 1, .aload_n 0, [], 0),
  (7, 2, .bipush (-4), [], (-4)),
  (9, 3, .putfield 23, [0, 4, 3, 0, 0, 318], 0),
  (12, 1, .aload_n 0, [], 0),
  (13, 3, .getfield 9, [2, 4, 0, 484, 0, 314], 0),
  (16, 2, .ldc 18, [726], 536870912),
  (18, 3, .invokestatic 26, [168, 2, 0, 0, 727], 0),
  (21, 1, .aload_n 0, [], 0),
  (22, 3, .getfield 9, [2, 4, 0, 484, 0, 314], 0),
  (25, 1, .iload_n 3, [], 0),
  (26, 2, .iload 4, [], 0),
  (28, 1, .iastore, [], 0),
  (29, 1, .aload_n 0, [], 0),
  (30, 1, .aload_n 1, [], 0),
  (31, 1, .iload_n 2, [], 0),
  (32, 3, .invokevirtual 32, [42, 3, 0, 4, 728], 0),
  (35, 1, .aload_n 0, [], 0),
  (36, 1, .aload_n 1, [], 0),
  (37, 1, .iload_n 2, [], 0),
  (38, 1, .iconst 0, [], 0),
  (39, 3, .invokevirtual 36, [43, 4, 0, 4, 733], 0),
  (42, 1, .iconst 1, [], 1),
  (43, 2, .istore 5, [], 0),
  (45, 0, .nop, [27], 0),
  (45, 2, .iload 5, [], 0),
  (47, 2, .bipush 10, [], 10),
  (49, 3, .if_icmp .gt 29, [45], 0),
  (52, 1, .aload_n 0, [], 0),
  (53, 1, .aload_n 1, [], 0),
  (54, 1, .iload_n 2, [], 0),
  (55, 3, .invokevirtual 40, [40, 3, 0, 4, 737], 0),
  (58, 1, .aload_n 0, [], 0),
  (59, 1, .aload_n 1, [], 0),
  (60, 1, .iload_n 2, [], 0),
  (61, 3, .invokevirtual 32, [42, 3, 0, 4, 728], 0),
  (64, 1, .aload_n 0, [], 0),
  (65, 1, .aload_n 1, [], 0),
  (66, 1, .iload_n 2, [], 0),
  (67, 2, .iload 5, [], 0),
  (69, 3, .invokevirtual 36, [43, 4, 0, 4, 733], 0),
  (72, 3, .iinc 5 1, [], 1),
  (75, 3, .goto (-30), [26], 0),
  (78, 1, .return_, [], 0)]
def cT_step : List am_W := [(0, 1, .aload_n 0, [], 0),
  (1, 3, .getfield 15, [2, 4, 1, 484, 0, 315], 0),
  (4, 2, .ldc 18, [726], 536870912),
  (6, 3, .invokestatic 26, [168, 2, 0, 0, 727], 0),
  (9, 1, .iconst 0, [], 0),
  (10, 1, .istore_n 3, [], 0),
  (11, 0, .nop, [7], 0),
  (11, 1, .iload_n 3, [], 0),
  (12, 1, .iload_n 2, [], 0),
  (13, 3, .if_icmp .ge 52, [36], 0),
  (16, 1, .iconst 0, [], 0),
  (17, 2, .istore 4, [], 0),
  (19, 0, .nop, [13], 0),
  (19, 2, .iload 4, [], 0),
  (21, 1, .aload_n 1, [], 0),
  (22, 3, .getfield 43, [0, 2, 14, 0, 0, 125], 0),
  (25, 3, .if_icmp .ge 34, [34], 0),
  (28, 1, .aload_n 0, [], 0),
  (29, 3, .getfield 9, [2, 4, 0, 484, 0, 314], 0),
  (32, 1, .iload_n 3, [], 0),
  (33, 2, .bipush 6, [], 6),
  (35, 1, .imul, [], 0),
  (36, 2, .iload 4, [], 0),
  (38, 1, .iadd, [], 0),
  (39, 1, .iaload, [], 0),
  (40, 2, .ldc 18, [726], 536870912),
  (42, 3, .if_icmp .eq 11, [32], 0),
  (45, 1, .aload_n 0, [], 0),
  (46, 1, .aload_n 1, [], 0),
  (47, 1, .iload_n 3, [], 0),
  (48, 2, .iload 4, [], 0),
  (50, 3, .invokevirtual 48, [41, 4, 0, 4, 741], 0),
  (53, 3, .iinc 4 1, [], 1),
  (56, 3, .goto (-37), [12], 0),
  (59, 3, .iinc 3 1, [], 1),
  (62, 3, .goto (-51), [6], 0),
  (65, 1, .aload_n 0, [], 0),
  (66, 3, .getfield 9, [2, 4, 0, 484, 0, 314], 0),
  (69, 1, .astore_n 3, [], 0),
  (70, 1, .aload_n 0, [], 0),
  (71, 1, .aload_n 0, [], 0),
  (72, 3, .getfield 15, [2, 4, 1, 484, 0, 315], 0),
  (75, 3, .putfield 9, [2, 4, 0, 484, 0, 314], 0),
  (78, 1, .aload_n 0, [], 0),
  (79, 1, .aload_n 3, [], 0),
  (80, 3, .putfield 15, [2, 4, 1, 484, 0, 315], 0),
  (83, 1, .return_, [], 0)]
def cT_leave : List am_W := [(0, 1, .aload_n 0, [], 0),
  (1, 3, .getfield 9, [2, 4, 0, 484, 0, 314], 0),
  (4, 1, .iload_n 2, [], 0),
  (5, 2, .bipush 6, [], 6),
  (7, 1, .imul, [], 0),
  (8, 1, .iload_n 3, [], 0),
  (9, 1, .iadd, [], 0),
  (10, 1, .iaload, [], 0),
  (11, 2, .istore 4, [], 0),
  (13, 1, .iconst 0, [], 0),
  (14, 2, .istore 5, [], 0),
  (16, 0, .nop, [12], 0),
  (16, 2, .iload 5, [], 0),
  (18, 1, .aload_n 1, [], 0),
  (19, 3, .getfield 51, [0, 2, 15, 0, 0, 130], 0),
  (22, 3, .if_icmp .ge 60, [47], 0),
  (25, 1, .aload_n 1, [], 0),
  (26, 2, .iload 5, [], 0),
  (28, 1, .iload_n 3, [], 0),
  (29, 3, .invokevirtual 54, [29, 3, 1, 2, 745], 0),
  (32, 3, .ifCond .eq 44, [45], 0),
  (35, 1, .iload_n 2, [], 0),
  (36, 2, .bipush 6, [], 6),
  (38, 1, .imul, [], 0),
  (39, 1, .aload_n 1, [], 0),
  (40, 2, .iload 5, [], 0),
  (42, 1, .iload_n 3, [], 0),
  (43, 3, .invokevirtual 58, [30, 3, 1, 2, 746], 0),
  (46, 1, .iadd, [], 0),
  (47, 2, .istore 6, [], 0),
  (49, 1, .aload_n 0, [], 0),
  (50, 3, .getfield 15, [2, 4, 1, 484, 0, 315], 0),
  (53, 2, .iload 6, [], 0),
  (55, 1, .aload_n 0, [], 0),
  (56, 3, .getfield 15, [2, 4, 1, 484, 0, 315], 0),
  (59, 2, .iload 6, [], 0),
  (61, 1, .iaload, [], 0),
  (62, 2, .iload 4, [], 0),
  (64, 1, .aload_n 1, [], 0),
  (65, 2, .iload 5, [], 0),
  (67, 1, .iload_n 3, [], 0),
  (68, 3, .invokevirtual 62, [32, 3, 1, 2, 747], 0),
  (71, 1, .iadd, [], 0),
  (72, 3, .invokestatic 65, [167, 2, 1, 0, 732], 0),
  (75, 1, .iastore, [], 0),
  (76, 3, .iinc 5 1, [], 1),
  (79, 3, .goto (-63), [11], 0),
  (82, 1, .return_, [], 0)]
def cT_stayOrNot : List am_W := [(0, 1, .iconst 0, [], 0),
  (1, 1, .istore_n 3, [], 0),
  (2, 0, .nop, [3], 0),
  (2, 1, .iload_n 3, [], 0),
  (3, 1, .iload_n 2, [], 0),
  (4, 3, .if_icmp .ge 103, [65], 0),
  (7, 1, .iconst 0, [], 0),
  (8, 2, .istore 4, [], 0),
  (10, 0, .nop, [9], 0),
  (10, 2, .iload 4, [], 0),
  (12, 1, .aload_n 1, [], 0),
  (13, 3, .getfield 43, [0, 2, 14, 0, 0, 125], 0),
  (16, 3, .if_icmp .ge 85, [63], 0),
  (19, 1, .aload_n 0, [], 0),
  (20, 3, .getfield 9, [2, 4, 0, 484, 0, 314], 0),
  (23, 1, .iload_n 3, [], 0),
  (24, 2, .bipush 6, [], 6),
  (26, 1, .imul, [], 0),
  (27, 2, .iload 4, [], 0),
  (29, 1, .iadd, [], 0),
  (30, 1, .iaload, [], 0),
  (31, 2, .istore 5, [], 0),
  (33, 2, .iload 5, [], 0),
  (35, 2, .ldc 18, [726], 536870912),
  (37, 3, .if_icmp .eq 58, [61], 0),
  (40, 1, .iload_n 2, [], 0),
  (41, 1, .iload_n 3, [], 0),
  (42, 1, .iconst (-1), [], (-1)),
  (43, 1, .ixor, [], 0),
  (44, 1, .iand, [], 0),
  (45, 2, .iload 4, [], 0),
  (47, 1, .ishr, [], 0),
  (48, 1, .iconst 1, [], 1),
  (49, 1, .iand, [], 0),
  (50, 1, .iconst 1, [], 1),
  (51, 3, .if_icmp .ne 44, [61], 0),
  (54, 1, .iload_n 3, [], 0),
  (55, 1, .iconst 1, [], 1),
  (56, 2, .iload 4, [], 0),
  (58, 1, .ishl, [], 0),
  (59, 1, .ior, [], 0),
  (60, 2, .bipush 6, [], 6),
  (62, 1, .imul, [], 0),
  (63, 2, .iload 4, [], 0),
  (65, 1, .iadd, [], 0),
  (66, 2, .istore 6, [], 0),
  (68, 1, .aload_n 0, [], 0),
  (69, 3, .getfield 9, [2, 4, 0, 484, 0, 314], 0),
  (72, 2, .iload 6, [], 0),
  (74, 1, .aload_n 0, [], 0),
  (75, 3, .getfield 9, [2, 4, 0, 484, 0, 314], 0),
  (78, 2, .iload 6, [], 0),
  (80, 1, .iaload, [], 0),
  (81, 2, .iload 5, [], 0),
  (83, 1, .aload_n 1, [], 0),
  (84, 3, .getfield 70, [1, 2, 3, 106, 4, 98], 0),
  (87, 2, .iload 4, [], 0),
  (89, 1, .iaload, [], 0),
  (90, 1, .iadd, [], 0),
  (91, 3, .invokestatic 65, [167, 2, 1, 0, 732], 0),
  (94, 1, .iastore, [], 0),
  (95, 3, .iinc 4 1, [], 1),
  (98, 3, .goto (-88), [8], 0),
  (101, 3, .iinc 3 1, [], 1),
  (104, 3, .goto (-102), [2], 0),
  (107, 1, .return_, [], 0)]
def cT_noteDone : List am_W := [(0, 1, .iconst 0, [], 0),
  (1, 2, .istore 4, [], 0),
  (3, 0, .nop, [3], 0),
  (3, 2, .iload 4, [], 0),
  (5, 1, .aload_n 1, [], 0),
  (6, 3, .getfield 43, [0, 2, 14, 0, 0, 125], 0),
  (9, 3, .if_icmp .ge 57, [34], 0),
  (12, 1, .aload_n 0, [], 0),
  (13, 3, .getfield 9, [2, 4, 0, 484, 0, 314], 0),
  (16, 1, .iload_n 2, [], 0),
  (17, 2, .bipush 6, [], 6),
  (19, 1, .imul, [], 0),
  (20, 2, .iload 4, [], 0),
  (22, 1, .iadd, [], 0),
  (23, 1, .iaload, [], 0),
  (24, 2, .istore 5, [], 0),
  (26, 2, .iload 5, [], 0),
  (28, 2, .ldc 18, [726], 536870912),
  (30, 3, .if_icmp .eq 17, [26], 0),
  (33, 1, .aload_n 0, [], 0),
  (34, 3, .getfield 23, [0, 4, 3, 0, 0, 318], 0),
  (37, 2, .bipush (-4), [], (-4)),
  (39, 3, .if_icmp .ne 8, [26], 0),
  (42, 1, .aload_n 0, [], 0),
  (43, 1, .iload_n 3, [], 0),
  (44, 3, .putfield 23, [0, 4, 3, 0, 0, 318], 0),
  (47, 1, .aload_n 0, [], 0),
  (48, 1, .aload_n 0, [], 0),
  (49, 3, .getfield 19, [0, 4, 2, 0, 0, 316], 0),
  (52, 2, .iload 5, [], 0),
  (54, 3, .invokestatic 65, [167, 2, 1, 0, 732], 0),
  (57, 3, .putfield 19, [0, 4, 2, 0, 0, 316], 0),
  (60, 3, .iinc 4 1, [], 1),
  (63, 3, .goto (-60), [2], 0),
  (66, 1, .return_, [], 0)]
def cW_begin : List am_W := [(0, 1, .aload_n 0, [], 0),
  (1, 3, .getfield 9, [1, 5, 0, 106, 1, 293], 0),
  (4, 2, .ldc 24, [681], 536870912),
  (6, 3, .invokestatic 25, [168, 2, 0, 0, 682], 0),
  (9, 1, .aload_n 0, [], 0),
  (10, 3, .getfield 18, [1, 5, 2, 106, 3, 296], 0),
  (13, 2, .bipush (-4), [], (-4)),
  (15, 3, .invokestatic 25, [168, 2, 0, 0, 682], 0),
  (18, 1, .aload_n 0, [], 0),
  (19, 3, .getfield 9, [1, 5, 0, 106, 1, 293], 0),
  (22, 1, .iload_n 1, [], 0),
  (23, 1, .iload_n 2, [], 0),
  (24, 1, .iastore, [], 0),
  (25, 1, .return_, [], 0)]
def cW_step : List am_W := [(0, 1, .aload_n 0, [], 0),
  (1, 3, .getfield 15, [1, 5, 1, 106, 2, 295], 0),
  (4, 2, .ldc 24, [681], 536870912),
  (6, 3, .invokestatic 25, [168, 2, 0, 0, 682], 0),
  (9, 1, .aload_n 0, [], 0),
  (10, 3, .getfield 21, [1, 5, 3, 106, 4, 298], 0),
  (13, 2, .bipush (-4), [], (-4)),
  (15, 3, .invokestatic 25, [168, 2, 0, 0, 682], 0),
  (18, 1, .iconst 0, [], 0),
  (19, 1, .istore_n 2, [], 0),
  (20, 0, .nop, [11], 0),
  (20, 1, .iload_n 2, [], 0),
  (21, 1, .aload_n 1, [], 0),
  (22, 3, .getfield 31, [0, 2, 15, 0, 0, 129], 0),
  (25, 3, .if_icmp .ge 33, [33], 0),
  (28, 1, .aload_n 0, [], 0),
  (29, 1, .aload_n 1, [], 0),
  (30, 1, .iload_n 2, [], 0),
  (31, 1, .aload_n 1, [], 0),
  (32, 3, .getfield 37, [1, 2, 5, 108, 6, 105], 0),
  (35, 1, .iload_n 2, [], 0),
  (36, 1, .iaload, [], 0),
  (37, 3, .invokevirtual 40, [46, 4, 0, 5, 689], 0),
  (40, 1, .aload_n 0, [], 0),
  (41, 1, .aload_n 1, [], 0),
  (42, 1, .iload_n 2, [], 0),
  (43, 1, .aload_n 1, [], 0),
  (44, 3, .getfield 44, [1, 2, 6, 108, 7, 108], 0),
  (47, 1, .iload_n 2, [], 0),
  (48, 1, .iaload, [], 0),
  (49, 3, .invokevirtual 40, [46, 4, 0, 5, 689], 0),
  (52, 3, .iinc 2 1, [], 1),
  (55, 3, .goto (-35), [10], 0),
  (58, 1, .aload_n 0, [], 0),
  (59, 3, .getfield 15, [1, 5, 1, 106, 2, 295], 0),
  (62, 1, .iconst 0, [], 0),
  (63, 1, .aload_n 0, [], 0),
  (64, 3, .getfield 9, [1, 5, 0, 106, 1, 293], 0),
  (67, 1, .iconst 0, [], 0),
  (68, 2, .bipush 6, [], 6),
  (70, 3, .invokestatic 47, [999, 699], 0),
  (73, 1, .aload_n 0, [], 0),
  (74, 3, .getfield 21, [1, 5, 3, 106, 4, 298], 0),
  (77, 1, .iconst 0, [], 0),
  (78, 1, .aload_n 0, [], 0),
  (79, 3, .getfield 18, [1, 5, 2, 106, 3, 296], 0),
  (82, 1, .iconst 0, [], 0),
  (83, 2, .bipush 6, [], 6),
  (85, 3, .invokestatic 47, [999, 699], 0),
  (88, 1, .return_, [], 0)]
def cW_offer : List am_W := [(0, 1, .aload_n 0, [], 0),
  (1, 3, .getfield 9, [1, 5, 0, 106, 1, 293], 0),
  (4, 1, .iload_n 3, [], 0),
  (5, 1, .iaload, [], 0),
  (6, 2, .ldc 24, [681], 536870912),
  (8, 3, .if_icmp .ne 4, [7], 0),
  (11, 1, .return_, [], 0),
  (12, 1, .aload_n 1, [], 0),
  (13, 1, .iload_n 2, [], 0),
  (14, 1, .iload_n 3, [], 0),
  (15, 3, .invokevirtual 53, [30, 3, 1, 2, 693], 0),
  (18, 2, .istore 4, [], 0),
  (20, 1, .aload_n 0, [], 0),
  (21, 3, .getfield 9, [1, 5, 0, 106, 1, 293], 0),
  (24, 1, .iload_n 3, [], 0),
  (25, 1, .iaload, [], 0),
  (26, 1, .aload_n 1, [], 0),
  (27, 1, .iload_n 2, [], 0),
  (28, 1, .iload_n 3, [], 0),
  (29, 3, .invokevirtual 57, [32, 3, 1, 2, 694], 0),
  (32, 1, .iadd, [], 0),
  (33, 2, .istore 5, [], 0),
  (35, 1, .aload_n 0, [], 0),
  (36, 3, .getfield 18, [1, 5, 2, 106, 3, 296], 0),
  (39, 1, .iload_n 3, [], 0),
  (40, 1, .iaload, [], 0),
  (41, 2, .bipush (-4), [], (-4)),
  (43, 3, .if_icmp .ne 7, [30], 0),
  (46, 1, .iload_n 2, [], 0),
  (47, 3, .goto 9, [34], 0),
  (50, 1, .aload_n 0, [], 0),
  (51, 3, .getfield 18, [1, 5, 2, 106, 3, 296], 0),
  (54, 1, .iload_n 3, [], 0),
  (55, 1, .iaload, [], 0),
  (56, 2, .istore 6, [], 0),
  (58, 2, .iload 5, [], 0),
  (60, 1, .aload_n 0, [], 0),
  (61, 3, .getfield 15, [1, 5, 1, 106, 2, 295], 0),
  (64, 2, .iload 4, [], 0),
  (66, 1, .iaload, [], 0),
  (67, 3, .if_icmp .lt 27, [53], 0),
  (70, 2, .iload 5, [], 0),
  (72, 1, .aload_n 0, [], 0),
  (73, 3, .getfield 15, [1, 5, 1, 106, 2, 295], 0),
  (76, 2, .iload 4, [], 0),
  (78, 1, .iaload, [], 0),
  (79, 3, .if_icmp .ne 33, [63], 0),
  (82, 2, .iload 6, [], 0),
  (84, 1, .aload_n 0, [], 0),
  (85, 3, .getfield 21, [1, 5, 3, 106, 4, 298], 0),
  (88, 2, .iload 4, [], 0),
  (90, 1, .iaload, [], 0),
  (91, 3, .if_icmp .ge 21, [63], 0),
  (94, 1, .aload_n 0, [], 0),
  (95, 3, .getfield 15, [1, 5, 1, 106, 2, 295], 0),
  (98, 2, .iload 4, [], 0),
  (100, 2, .iload 5, [], 0),
  (102, 1, .iastore, [], 0),
  (103, 1, .aload_n 0, [], 0),
  (104, 3, .getfield 21, [1, 5, 3, 106, 4, 298], 0),
  (107, 2, .iload 4, [], 0),
  (109, 2, .iload 6, [], 0),
  (111, 1, .iastore, [], 0),
  (112, 1, .return_, [], 0)]
def cW_isEven : List am_W := [(0, 1, .aload_n 0, [], 0),
  (1, 3, .getfield 9, [1, 5, 0, 106, 1, 293], 0),
  (4, 2, .ldc 24, [681], 536870912),
  (6, 3, .invokestatic 25, [168, 2, 0, 0, 682], 0),
  (9, 1, .iconst 0, [], 0),
  (10, 1, .istore_n 2, [], 0),
  (11, 0, .nop, [7], 0),
  (11, 1, .iload_n 2, [], 0),
  (12, 1, .aload_n 1, [], 0),
  (13, 3, .getfield 60, [0, 2, 14, 0, 0, 126], 0),
  (16, 3, .if_icmp .ge 32, [27], 0),
  (19, 1, .aload_n 0, [], 0),
  (20, 3, .getfield 9, [1, 5, 0, 106, 1, 293], 0),
  (23, 1, .iload_n 2, [], 0),
  (24, 1, .iaload, [], 0),
  (25, 2, .ldc 24, [681], 536870912),
  (27, 3, .if_icmp .ne 15, [25], 0),
  (30, 1, .aload_n 0, [], 0),
  (31, 3, .getfield 9, [1, 5, 0, 106, 1, 293], 0),
  (34, 1, .iload_n 2, [], 0),
  (35, 1, .iconst 0, [], 0),
  (36, 1, .iastore, [], 0),
  (37, 1, .aload_n 0, [], 0),
  (38, 1, .aload_n 1, [], 0),
  (39, 3, .invokevirtual 63, [48, 2, 0, 5, 714], 0),
  (42, 3, .iinc 2 1, [], 1),
  (45, 3, .goto (-34), [6], 0),
  (48, 1, .iconst 0, [], 0),
  (49, 1, .istore_n 2, [], 0),
  (50, 0, .nop, [30], 0),
  (50, 1, .iload_n 2, [], 0),
  (51, 1, .aload_n 1, [], 0),
  (52, 3, .getfield 31, [0, 2, 15, 0, 0, 129], 0),
  (55, 3, .if_icmp .ge 43, [58], 0),
  (58, 1, .aload_n 0, [], 0),
  (59, 3, .getfield 9, [1, 5, 0, 106, 1, 293], 0),
  (62, 1, .aload_n 1, [], 0),
  (63, 3, .getfield 44, [1, 2, 6, 108, 7, 108], 0),
  (66, 1, .iload_n 2, [], 0),
  (67, 1, .iaload, [], 0),
  (68, 1, .iaload, [], 0),
  (69, 1, .aload_n 0, [], 0),
  (70, 3, .getfield 9, [1, 5, 0, 106, 1, 293], 0),
  (73, 1, .aload_n 1, [], 0),
  (74, 3, .getfield 37, [1, 2, 5, 108, 6, 105], 0),
  (77, 1, .iload_n 2, [], 0),
  (78, 1, .iaload, [], 0),
  (79, 1, .iaload, [], 0),
  (80, 1, .isub, [], 0),
  (81, 1, .aload_n 1, [], 0),
  (82, 3, .getfield 67, [1, 2, 7, 108, 8, 111], 0),
  (85, 1, .iload_n 2, [], 0),
  (86, 1, .iaload, [], 0),
  (87, 3, .if_icmp .eq 5, [56], 0),
  (90, 1, .iconst 0, [], 0),
  (91, 1, .ireturn, [1], 0),
  (92, 3, .iinc 2 1, [], 1),
  (95, 3, .goto (-45), [29], 0),
  (98, 1, .iconst 1, [], 1),
  (99, 1, .ireturn, [1], 0)]
def cW_spread : List am_W := [(0, 1, .iconst 1, [], 1),
  (1, 1, .istore_n 2, [], 0),
  (2, 0, .nop, [3], 0),
  (2, 1, .iload_n 2, [], 0),
  (3, 1, .aload_n 1, [], 0),
  (4, 3, .getfield 60, [0, 2, 14, 0, 0, 126], 0),
  (7, 3, .if_icmp .ge 134, [79], 0),
  (10, 1, .iconst 0, [], 0),
  (11, 1, .istore_n 3, [], 0),
  (12, 0, .nop, [10], 0),
  (12, 1, .iload_n 3, [], 0),
  (13, 1, .aload_n 1, [], 0),
  (14, 3, .getfield 31, [0, 2, 15, 0, 0, 129], 0),
  (17, 3, .if_icmp .ge 118, [77], 0),
  (20, 1, .aload_n 1, [], 0),
  (21, 3, .getfield 37, [1, 2, 5, 108, 6, 105], 0),
  (24, 1, .iload_n 3, [], 0),
  (25, 1, .iaload, [], 0),
  (26, 2, .istore 4, [], 0),
  (28, 1, .aload_n 1, [], 0),
  (29, 3, .getfield 44, [1, 2, 6, 108, 7, 108], 0),
  (32, 1, .iload_n 3, [], 0),
  (33, 1, .iaload, [], 0),
  (34, 2, .istore 5, [], 0),
  (36, 1, .aload_n 0, [], 0),
  (37, 3, .getfield 9, [1, 5, 0, 106, 1, 293], 0),
  (40, 2, .iload 4, [], 0),
  (42, 1, .iaload, [], 0),
  (43, 2, .ldc 24, [681], 536870912),
  (45, 3, .if_icmp .eq 39, [50], 0),
  (48, 1, .aload_n 0, [], 0),
  (49, 3, .getfield 9, [1, 5, 0, 106, 1, 293], 0),
  (52, 2, .iload 5, [], 0),
  (54, 1, .iaload, [], 0),
  (55, 2, .ldc 24, [681], 536870912),
  (57, 3, .if_icmp .ne 27, [50], 0),
  (60, 1, .aload_n 0, [], 0),
  (61, 3, .getfield 9, [1, 5, 0, 106, 1, 293], 0),
  (64, 2, .iload 5, [], 0),
  (66, 1, .aload_n 0, [], 0),
  (67, 3, .getfield 9, [1, 5, 0, 106, 1, 293], 0),
  (70, 2, .iload 4, [], 0),
  (72, 1, .iaload, [], 0),
  (73, 1, .aload_n 1, [], 0),
  (74, 3, .getfield 67, [1, 2, 7, 108, 8, 111], 0),
  (77, 1, .iload_n 3, [], 0),
  (78, 1, .iaload, [], 0),
  (79, 1, .iadd, [], 0),
  (80, 1, .iastore, [], 0),
  (81, 3, .goto 48, [75], 0),
  (84, 1, .aload_n 0, [], 0),
  (85, 3, .getfield 9, [1, 5, 0, 106, 1, 293], 0),
  (88, 2, .iload 5, [], 0),
  (90, 1, .iaload, [], 0),
  (91, 2, .ldc 24, [681], 536870912),
  (93, 3, .if_icmp .eq 36, [75], 0),
  (96, 1, .aload_n 0, [], 0),
  (97, 3, .getfield 9, [1, 5, 0, 106, 1, 293], 0),
  (100, 2, .iload 4, [], 0),
  (102, 1, .iaload, [], 0),
  (103, 2, .ldc 24, [681], 536870912),
  (105, 3, .if_icmp .ne 24, [75], 0),
  (108, 1, .aload_n 0, [], 0),
  (109, 3, .getfield 9, [1, 5, 0, 106, 1, 293], 0),
  (112, 2, .iload 4, [], 0),
  (114, 1, .aload_n 0, [], 0),
  (115, 3, .getfield 9, [1, 5, 0, 106, 1, 293], 0),
  (118, 2, .iload 5, [], 0),
  (120, 1, .iaload, [], 0),
  (121, 1, .aload_n 1, [], 0),
  (122, 3, .getfield 67, [1, 2, 7, 108, 8, 111], 0),
  (125, 1, .iload_n 3, [], 0),
  (126, 1, .iaload, [], 0),
  (127, 1, .isub, [], 0),
  (128, 1, .iastore, [], 0),
  (129, 3, .iinc 3 1, [], 1),
  (132, 3, .goto (-120), [9], 0),
  (135, 3, .iinc 2 1, [], 1),
  (138, 3, .goto (-136), [2], 0),
  (141, 1, .return_, [], 0)]
def cC_write : List am_W := [(0, 1, .iload_n 1, [], 0),
  (1, 2, .bipush 32, [], 32),
  (3, 3, .if_icmp .lt 9, [6], 0),
  (6, 1, .iload_n 1, [], 0),
  (7, 2, .bipush 126, [], 126),
  (9, 3, .if_icmp .le 5, [8], 0),
  (12, 1, .iconst (-1), [], (-1)),
  (13, 1, .ireturn, [0], 0),
  (14, 1, .aload_n 0, [], 0),
  (15, 3, .getfield 94, [0, 6, 1, 0, 0, 435], 0),
  (18, 3, .sipush 200, [], 200),
  (21, 3, .if_icmp .lt 6, [14], 0),
  (24, 2, .bipush (-3), [], (-3)),
  (26, 1, .ireturn, [0], 0),
  (27, 1, .aload_n 0, [], 0),
  (28, 3, .getfield 9, [1, 6, 0, 9, 1, 434], 0),
  (31, 1, .aload_n 0, [], 0),
  (32, 3, .getfield 94, [0, 6, 1, 0, 0, 435], 0),
  (35, 1, .iload_n 1, [], 0),
  (36, 1, .i2c, [], 0),
  (37, 1, .castore, [], 0),
  (38, 1, .aload_n 0, [], 0),
  (39, 1, .dup, [], 0),
  (40, 3, .getfield 94, [0, 6, 1, 0, 0, 435], 0),
  (43, 1, .iconst 1, [], 1),
  (44, 1, .iadd, [], 0),
  (45, 3, .putfield 94, [0, 6, 1, 0, 0, 435], 0),
  (48, 1, .aload_n 0, [], 0),
  (49, 3, .getfield 94, [0, 6, 1, 0, 0, 435], 0),
  (52, 1, .ireturn, [0], 0)]
def cC_wipe : List am_W := [(0, 1, .aload_n 0, [], 0),
  (1, 3, .getfield 94, [0, 6, 1, 0, 0, 435], 0),
  (4, 1, .istore_n 1, [], 0),
  (5, 1, .aload_n 0, [], 0),
  (6, 1, .iconst 0, [], 0),
  (7, 3, .putfield 94, [0, 6, 1, 0, 0, 435], 0),
  (10, 1, .iload_n 1, [], 0),
  (11, 1, .ireturn, [0], 0)]
def cC_fault : List am_W := [(0, 1, .aload_n 0, [], 0),
  (1, 3, .getfield 20, [2, 6, 3, 2, 0, 437], 0),
  (4, 1, .aload_n 0, [], 0),
  (5, 3, .getfield 9, [1, 6, 0, 9, 1, 434], 0),
  (8, 1, .aload_n 0, [], 0),
  (9, 3, .getfield 94, [0, 6, 1, 0, 0, 435], 0),
  (12, 3, .invokevirtual 87, [18, 3, 1, 2, 381], 0),
  (15, 1, .ireturn, [0], 0)]
def cC_lay : List am_W := [(0, 1, .aload_n 0, [], 0),
  (1, 3, .getfield 20, [2, 6, 3, 2, 0, 437], 0),
  (4, 1, .aload_n 0, [], 0),
  (5, 3, .getfield 9, [1, 6, 0, 9, 1, 434], 0),
  (8, 1, .aload_n 0, [], 0),
  (9, 3, .getfield 94, [0, 6, 1, 0, 0, 435], 0),
  (12, 3, .invokevirtual 87, [18, 3, 1, 2, 381], 0),
  (15, 2, .bipush (-4), [], (-4)),
  (17, 3, .if_icmp .ne 13, [13], 0),
  (20, 1, .aload_n 0, [], 0),
  (21, 3, .getfield 20, [2, 6, 3, 2, 0, 437], 0),
  (24, 3, .getfield 98, [0, 2, 16, 0, 0, 134], 0),
  (27, 3, .ifCond .ne 6, [15], 0),
  (30, 2, .bipush (-2), [], (-2)),
  (32, 1, .ireturn, [0], 0),
  (33, 1, .aload_n 0, [], 0),
  (34, 3, .invokevirtual 91, [81, 1, 0, 6, 422], 0),
  (37, 1, .aload_n 0, [], 0),
  (38, 3, .getfield 16, [2, 6, 2, 2, 0, 436], 0),
  (41, 3, .getfield 101, [0, 2, 14, 0, 0, 127], 0),
  (44, 1, .ireturn, [0], 0)]
def cC_room : List am_W := [(0, 1, .aload_n 0, [], 0),
  (1, 1, .iload_n 1, [], 0),
  (2, 3, .invokevirtual 104, [91, 2, 1, 6, 495], 0),
  (5, 3, .ifCond .ne 5, [6], 0),
  (8, 1, .iconst (-1), [], (-1)),
  (9, 1, .ireturn, [0], 0),
  (10, 1, .iload_n 2, [], 0),
  (11, 29, .tableswitch 69 0 3 #[29, 39, 49, 59], [32, 0, 8, 1, 14, 2, 20, 3, 26], 0),
  (40, 1, .aload_n 0, [], 0),
  (41, 3, .getfield 16, [2, 6, 2, 2, 0, 436], 0),
  (44, 3, .getfield 108, [1, 2, 0, 106, 1, 92], 0),
  (47, 1, .iload_n 1, [], 0),
  (48, 1, .iaload, [], 0),
  (49, 1, .ireturn, [0], 0),
  (50, 1, .aload_n 0, [], 0),
  (51, 3, .getfield 16, [2, 6, 2, 2, 0, 436], 0),
  (54, 3, .getfield 112, [1, 2, 1, 106, 2, 94], 0),
  (57, 1, .iload_n 1, [], 0),
  (58, 1, .iaload, [], 0),
  (59, 1, .ireturn, [0], 0),
  (60, 1, .aload_n 0, [], 0),
  (61, 3, .getfield 16, [2, 6, 2, 2, 0, 436], 0),
  (64, 3, .getfield 115, [1, 2, 2, 106, 3, 96], 0),
  (67, 1, .iload_n 1, [], 0),
  (68, 1, .iaload, [], 0),
  (69, 1, .ireturn, [0], 0),
  (70, 1, .aload_n 0, [], 0),
  (71, 3, .getfield 16, [2, 6, 2, 2, 0, 436], 0),
  (74, 3, .getfield 118, [1, 2, 3, 106, 4, 99], 0),
  (77, 1, .iload_n 1, [], 0),
  (78, 1, .iaload, [], 0),
  (79, 1, .ireturn, [0], 0),
  (80, 1, .iconst (-1), [], (-1)),
  (81, 1, .ireturn, [0], 0)]
def cC_clock : List am_W := [(0, 1, .aload_n 0, [], 0),
  (1, 1, .iload_n 1, [], 0),
  (2, 3, .invokevirtual 104, [91, 2, 1, 6, 495], 0),
  (5, 3, .ifCond .eq 18, [11], 0),
  (8, 1, .iload_n 2, [], 0),
  (9, 3, .invokestatic 121, [90, 1, 1, 0, 506], 0),
  (12, 3, .ifCond .eq 11, [11], 0),
  (15, 1, .iload_n 3, [], 0),
  (16, 1, .iconst 2, [], 2),
  (17, 3, .invokestatic 124, [89, 2, 1, 0, 499], 0),
  (20, 3, .ifCond .ne 5, [13], 0),
  (23, 1, .iconst (-1), [], (-1)),
  (24, 1, .ireturn, [0], 0),
  (25, 2, .bipush 12, [], 12),
  (27, 1, .aload_n 0, [], 0),
  (28, 3, .getfield 16, [2, 6, 2, 2, 0, 436], 0),
  (31, 3, .getfield 112, [1, 2, 1, 106, 2, 94], 0),
  (34, 1, .iload_n 1, [], 0),
  (35, 1, .iaload, [], 0),
  (36, 1, .imul, [], 0),
  (37, 2, .istore 4, [], 0),
  (39, 1, .aload_n 0, [], 0),
  (40, 3, .getfield 16, [2, 6, 2, 2, 0, 436], 0),
  (43, 3, .getfield 115, [1, 2, 2, 106, 3, 96], 0),
  (46, 1, .iload_n 1, [], 0),
  (47, 1, .iaload, [], 0),
  (48, 2, .iload 4, [], 0),
  (50, 1, .imul, [], 0),
  (51, 1, .iload_n 2, [], 0),
  (52, 1, .aload_n 0, [], 0),
  (53, 3, .getfield 16, [2, 6, 2, 2, 0, 436], 0),
  (56, 3, .getfield 108, [1, 2, 0, 106, 1, 92], 0),
  (59, 1, .iload_n 1, [], 0),
  (60, 1, .iaload, [], 0),
  (61, 1, .imul, [], 0),
  (62, 1, .iadd, [], 0),
  (63, 2, .bipush 24, [], 24),
  (65, 2, .iload 4, [], 0),
  (67, 1, .imul, [], 0),
  (68, 3, .invokestatic 128, [165, 2, 1, 0, 509], 0),
  (71, 2, .istore 5, [], 0),
  (73, 2, .iload 5, [], 0),
  (75, 2, .iload 4, [], 0),
  (77, 3, .invokestatic 131, [87, 2, 1, 0, 512], 0),
  (80, 2, .istore 6, [], 0),
  (82, 1, .iload_n 3, [], 0),
  (83, 3, .ifCond .ne 8, [49], 0),
  (86, 2, .iload 5, [], 0),
  (88, 3, .goto 5, [50], 0),
  (91, 2, .iload 4, [], 0),
  (93, 2, .iload 6, [], 0),
  (95, 1, .idiv, [], 0),
  (96, 1, .ireturn, [0], 0)]
def cC_door : List am_W := [(0, 1, .aload_n 0, [], 0),
  (1, 1, .iload_n 1, [], 0),
  (2, 3, .invokevirtual 134, [92, 2, 1, 6, 522], 0),
  (5, 3, .ifCond .ne 5, [6], 0),
  (8, 1, .iconst (-1), [], (-1)),
  (9, 1, .ireturn, [0], 0),
  (10, 1, .iload_n 2, [], 0),
  (11, 25, .tableswitch 58 0 2 #[25, 35, 45], [28, 0, 8, 1, 14, 2, 20], 0),
  (36, 1, .aload_n 0, [], 0),
  (37, 3, .getfield 16, [2, 6, 2, 2, 0, 436], 0),
  (40, 3, .getfield 137, [1, 2, 5, 108, 6, 106], 0),
  (43, 1, .iload_n 1, [], 0),
  (44, 1, .iaload, [], 0),
  (45, 1, .ireturn, [0], 0),
  (46, 1, .aload_n 0, [], 0),
  (47, 3, .getfield 16, [2, 6, 2, 2, 0, 436], 0),
  (50, 3, .getfield 140, [1, 2, 6, 108, 7, 109], 0),
  (53, 1, .iload_n 1, [], 0),
  (54, 1, .iaload, [], 0),
  (55, 1, .ireturn, [0], 0),
  (56, 1, .aload_n 0, [], 0),
  (57, 3, .getfield 16, [2, 6, 2, 2, 0, 436], 0),
  (60, 3, .getfield 143, [1, 2, 7, 108, 8, 112], 0),
  (63, 1, .iload_n 1, [], 0),
  (64, 1, .iaload, [], 0),
  (65, 2, .bipush 24, [], 24),
  (67, 1, .iadd, [], 0),
  (68, 1, .ireturn, [0], 0),
  (69, 1, .iconst (-1), [], (-1)),
  (70, 1, .ireturn, [0], 0)]
def cC_person : List am_W := [(0, 1, .aload_n 0, [], 0),
  (1, 1, .iload_n 1, [], 0),
  (2, 3, .invokevirtual 146, [93, 2, 1, 6, 530], 0),
  (5, 3, .ifCond .ne 5, [6], 0),
  (8, 1, .iconst (-1), [], (-1)),
  (9, 1, .ireturn, [0], 0),
  (10, 1, .iload_n 2, [], 0),
  (11, 33, .tableswitch 84 0 4 #[33, 43, 56, 66, 75], [37, 0, 8, 1, 14, 2, 21, 3, 27, 4, 32], 0),
  (44, 1, .aload_n 0, [], 0),
  (45, 3, .getfield 28, [1, 6, 4, 1, 32, 438], 0),
  (48, 3, .getfield 149, [1, 1, 2, 104, 1, 191], 0),
  (51, 1, .iload_n 1, [], 0),
  (52, 1, .iaload, [], 0),
  (53, 1, .ireturn, [0], 0),
  (54, 1, .aload_n 0, [], 0),
  (55, 3, .getfield 28, [1, 6, 4, 1, 32, 438], 0),
  (58, 3, .getfield 152, [1, 1, 3, 104, 2, 193], 0),
  (61, 1, .iload_n 1, [], 0),
  (62, 1, .iaload, [], 0),
  (63, 3, .invokestatic 155, [88, 1, 1, 0, 534], 0),
  (66, 1, .ireturn, [0], 0),
  (67, 1, .aload_n 0, [], 0),
  (68, 3, .getfield 28, [1, 6, 4, 1, 32, 438], 0),
  (71, 3, .getfield 159, [1, 1, 4, 104, 3, 195], 0),
  (74, 1, .iload_n 1, [], 0),
  (75, 1, .iaload, [], 0),
  (76, 1, .ireturn, [0], 0),
  (77, 1, .aload_n 0, [], 0),
  (78, 3, .getfield 28, [1, 6, 4, 1, 32, 438], 0),
  (81, 1, .iload_n 1, [], 0),
  (82, 3, .invokevirtual 162, [15, 2, 1, 1, 538], 0),
  (85, 1, .ireturn, [0], 0),
  (86, 1, .aload_n 0, [], 0),
  (87, 3, .getfield 28, [1, 6, 4, 1, 32, 438], 0),
  (90, 1, .iload_n 1, [], 0),
  (91, 3, .invokevirtual 165, [16, 2, 1, 1, 542], 0),
  (94, 1, .ireturn, [0], 0),
  (95, 1, .iconst (-1), [], (-1)),
  (96, 1, .ireturn, [0], 0)]
def cC_thing : List am_W := [(0, 1, .aload_n 0, [], 0),
  (1, 1, .iload_n 1, [], 0),
  (2, 3, .invokevirtual 168, [94, 2, 1, 6, 550], 0),
  (5, 3, .ifCond .ne 5, [6], 0),
  (8, 1, .iconst (-1), [], (-1)),
  (9, 1, .ireturn, [0], 0),
  (10, 1, .iload_n 2, [], 0),
  (11, 37, .tableswitch 123 0 5 #[37, 47, 57, 67, 77, 109], [56, 0, 8, 1, 14, 2, 20, 3, 26, 4, 32, 5, 48], 0),
  (48, 1, .aload_n 0, [], 0),
  (49, 3, .getfield 16, [2, 6, 2, 2, 0, 436], 0),
  (52, 3, .getfield 171, [1, 2, 11, 105, 12, 120], 0),
  (55, 1, .iload_n 1, [], 0),
  (56, 1, .iaload, [], 0),
  (57, 1, .ireturn, [0], 0),
  (58, 1, .aload_n 0, [], 0),
  (59, 3, .getfield 16, [2, 6, 2, 2, 0, 436], 0),
  (62, 3, .getfield 174, [1, 2, 12, 105, 13, 122], 0),
  (65, 1, .iload_n 1, [], 0),
  (66, 1, .iaload, [], 0),
  (67, 1, .ireturn, [0], 0),
  (68, 1, .aload_n 0, [], 0),
  (69, 3, .getfield 28, [1, 6, 4, 1, 32, 438], 0),
  (72, 3, .getfield 177, [1, 1, 6, 105, 5, 198], 0),
  (75, 1, .iload_n 1, [], 0),
  (76, 1, .iaload, [], 0),
  (77, 1, .ireturn, [0], 0),
  (78, 1, .aload_n 0, [], 0),
  (79, 3, .getfield 28, [1, 6, 4, 1, 32, 438], 0),
  (82, 3, .getfield 180, [1, 1, 7, 105, 6, 200], 0),
  (85, 1, .iload_n 1, [], 0),
  (86, 1, .iaload, [], 0),
  (87, 1, .ireturn, [0], 0),
  (88, 1, .aload_n 0, [], 0),
  (89, 3, .getfield 28, [1, 6, 4, 1, 32, 438], 0),
  (92, 3, .getfield 177, [1, 1, 6, 105, 5, 198], 0),
  (95, 1, .iload_n 1, [], 0),
  (96, 1, .iaload, [], 0),
  (97, 2, .bipush (-4), [], (-4)),
  (99, 3, .if_icmp .ne 8, [41], 0),
  (102, 2, .bipush (-4), [], (-4)),
  (104, 3, .goto 15, [47], 0),
  (107, 1, .aload_n 0, [], 0),
  (108, 3, .getfield 28, [1, 6, 4, 1, 32, 438], 0),
  (111, 3, .getfield 183, [1, 1, 8, 105, 7, 202], 0),
  (114, 1, .iload_n 1, [], 0),
  (115, 1, .iaload, [], 0),
  (116, 3, .invokestatic 155, [88, 1, 1, 0, 534], 0),
  (119, 1, .ireturn, [0], 0),
  (120, 1, .aload_n 0, [], 0),
  (121, 3, .getfield 28, [1, 6, 4, 1, 32, 438], 0),
  (124, 3, .getfield 186, [1, 1, 9, 105, 8, 204], 0),
  (127, 1, .iload_n 1, [], 0),
  (128, 1, .iaload, [], 0),
  (129, 3, .sipush 144, [], 144),
  (132, 1, .idiv, [], 0),
  (133, 1, .ireturn, [0], 0),
  (134, 1, .iconst (-1), [], (-1)),
  (135, 1, .ireturn, [0], 0)]
def cC_worth : List am_W := [(0, 1, .aload_n 0, [], 0),
  (1, 1, .iload_n 1, [], 0),
  (2, 3, .invokevirtual 168, [94, 2, 1, 6, 550], 0),
  (5, 3, .ifCond .eq 10, [7], 0),
  (8, 1, .iload_n 2, [], 0),
  (9, 3, .invokestatic 121, [90, 1, 1, 0, 506], 0),
  (12, 3, .ifCond .ne 5, [9], 0),
  (15, 1, .iconst (-1), [], (-1)),
  (16, 1, .ireturn, [0], 0),
  (17, 1, .aload_n 0, [], 0),
  (18, 3, .getfield 28, [1, 6, 4, 1, 32, 438], 0),
  (21, 3, .getfield 177, [1, 1, 6, 105, 5, 198], 0),
  (24, 1, .iload_n 1, [], 0),
  (25, 1, .iaload, [], 0),
  (26, 2, .bipush (-4), [], (-4)),
  (28, 3, .if_icmp .eq 16, [23], 0),
  (31, 1, .iload_n 2, [], 0),
  (32, 1, .aload_n 0, [], 0),
  (33, 3, .getfield 28, [1, 6, 4, 1, 32, 438], 0),
  (36, 3, .getfield 183, [1, 1, 8, 105, 7, 202], 0),
  (39, 1, .iload_n 1, [], 0),
  (40, 1, .iaload, [], 0),
  (41, 3, .if_icmp .ge 6, [25], 0),
  (44, 2, .bipush (-2), [], (-2)),
  (46, 1, .ireturn, [0], 0),
  (47, 1, .aload_n 0, [], 0),
  (48, 3, .getfield 16, [2, 6, 2, 2, 0, 436], 0),
  (51, 1, .iload_n 1, [], 0),
  (52, 1, .aload_n 0, [], 0),
  (53, 3, .getfield 28, [1, 6, 4, 1, 32, 438], 0),
  (56, 1, .iload_n 1, [], 0),
  (57, 1, .iload_n 2, [], 0),
  (58, 3, .invokevirtual 189, [14, 3, 1, 1, 558], 0),
  (61, 3, .invokevirtual 192, [33, 3, 1, 2, 566], 0),
  (64, 1, .ireturn, [0], 0)]
def cC_stay : List am_W := [(0, 1, .aload_n 0, [], 0),
  (1, 1, .iload_n 1, [], 0),
  (2, 3, .invokevirtual 146, [93, 2, 1, 6, 530], 0),
  (5, 3, .ifCond .eq 14, [10], 0),
  (8, 1, .iload_n 2, [], 0),
  (9, 1, .iconst 1, [], 1),
  (10, 3, .if_icmp .lt 9, [10], 0),
  (13, 1, .iload_n 2, [], 0),
  (14, 2, .bipush 24, [], 24),
  (16, 3, .if_icmp .le 5, [12], 0),
  (19, 1, .iconst (-1), [], (-1)),
  (20, 1, .ireturn, [0], 0),
  (21, 1, .aload_n 0, [], 0),
  (22, 1, .iconst 0, [], 0),
  (23, 1, .iload_n 1, [], 0),
  (24, 1, .iload_n 2, [], 0),
  (25, 3, .invokevirtual 195, [83, 4, 1, 6, 575], 0),
  (28, 3, .ifCond .eq 18, [25], 0),
  (31, 1, .aload_n 0, [], 0),
  (32, 3, .getfield 28, [1, 6, 4, 1, 32, 438], 0),
  (35, 3, .getfield 152, [1, 1, 3, 104, 2, 193], 0),
  (38, 1, .iload_n 1, [], 0),
  (39, 1, .iaload, [], 0),
  (40, 3, .invokestatic 155, [88, 1, 1, 0, 534], 0),
  (43, 3, .goto 5, [26], 0),
  (46, 2, .bipush (-3), [], (-3)),
  (48, 1, .ireturn, [0], 0)]
def cC_go : List am_W := [(0, 1, .aload_n 0, [], 0),
  (1, 1, .iload_n 1, [], 0),
  (2, 3, .invokevirtual 146, [93, 2, 1, 6, 530], 0),
  (5, 3, .ifCond .eq 11, [8], 0),
  (8, 1, .aload_n 0, [], 0),
  (9, 1, .iload_n 2, [], 0),
  (10, 3, .invokevirtual 134, [92, 2, 1, 6, 522], 0),
  (13, 3, .ifCond .ne 5, [10], 0),
  (16, 1, .iconst (-1), [], (-1)),
  (17, 1, .ireturn, [0], 0),
  (18, 1, .aload_n 0, [], 0),
  (19, 3, .getfield 28, [1, 6, 4, 1, 32, 438], 0),
  (22, 1, .iload_n 1, [], 0),
  (23, 1, .iload_n 2, [], 0),
  (24, 3, .invokevirtual 199, [4, 3, 1, 1, 636], 0),
  (27, 3, .ifCond .ne 6, [18], 0),
  (30, 2, .bipush (-2), [], (-2)),
  (32, 1, .ireturn, [0], 0),
  (33, 1, .aload_n 0, [], 0),
  (34, 1, .iconst 1, [], 1),
  (35, 1, .iload_n 1, [], 0),
  (36, 1, .iload_n 2, [], 0),
  (37, 3, .invokevirtual 195, [83, 4, 1, 6, 575], 0),
  (40, 3, .ifCond .eq 18, [31], 0),
  (43, 1, .aload_n 0, [], 0),
  (44, 3, .getfield 28, [1, 6, 4, 1, 32, 438], 0),
  (47, 3, .getfield 152, [1, 1, 3, 104, 2, 193], 0),
  (50, 1, .iload_n 1, [], 0),
  (51, 1, .iaload, [], 0),
  (52, 3, .invokestatic 155, [88, 1, 1, 0, 534], 0),
  (55, 3, .goto 5, [32], 0),
  (58, 2, .bipush (-3), [], (-3)),
  (60, 1, .ireturn, [0], 0)]
def cC_take : List am_W := [(0, 1, .aload_n 0, [], 0),
  (1, 1, .iload_n 1, [], 0),
  (2, 3, .invokevirtual 146, [93, 2, 1, 6, 530], 0),
  (5, 3, .ifCond .eq 11, [8], 0),
  (8, 1, .aload_n 0, [], 0),
  (9, 1, .iload_n 2, [], 0),
  (10, 3, .invokevirtual 168, [94, 2, 1, 6, 550], 0),
  (13, 3, .ifCond .ne 5, [10], 0),
  (16, 1, .iconst (-1), [], (-1)),
  (17, 1, .ireturn, [0], 0),
  (18, 1, .aload_n 0, [], 0),
  (19, 3, .getfield 28, [1, 6, 4, 1, 32, 438], 0),
  (22, 1, .iload_n 1, [], 0),
  (23, 1, .iload_n 2, [], 0),
  (24, 3, .invokevirtual 202, [5, 3, 1, 1, 641], 0),
  (27, 3, .ifCond .ne 6, [18], 0),
  (30, 2, .bipush (-2), [], (-2)),
  (32, 1, .ireturn, [0], 0),
  (33, 1, .aload_n 0, [], 0),
  (34, 1, .iconst 2, [], 2),
  (35, 1, .iload_n 1, [], 0),
  (36, 1, .iload_n 2, [], 0),
  (37, 3, .invokevirtual 195, [83, 4, 1, 6, 575], 0),
  (40, 3, .ifCond .eq 17, [30], 0),
  (43, 1, .aload_n 0, [], 0),
  (44, 3, .getfield 28, [1, 6, 4, 1, 32, 438], 0),
  (47, 1, .iload_n 1, [], 0),
  (48, 3, .invokevirtual 162, [15, 2, 1, 1, 538], 0),
  (51, 3, .invokestatic 205, [164, 1, 1, 0, 642], 0),
  (54, 3, .goto 5, [31], 0),
  (57, 2, .bipush (-3), [], (-3)),
  (59, 1, .ireturn, [0], 0)]
def cC_put : List am_W := [(0, 1, .aload_n 0, [], 0),
  (1, 1, .iload_n 1, [], 0),
  (2, 3, .invokevirtual 146, [93, 2, 1, 6, 530], 0),
  (5, 3, .ifCond .eq 11, [8], 0),
  (8, 1, .aload_n 0, [], 0),
  (9, 1, .iload_n 2, [], 0),
  (10, 3, .invokevirtual 168, [94, 2, 1, 6, 550], 0),
  (13, 3, .ifCond .ne 5, [10], 0),
  (16, 1, .iconst (-1), [], (-1)),
  (17, 1, .ireturn, [0], 0),
  (18, 1, .aload_n 0, [], 0),
  (19, 3, .getfield 28, [1, 6, 4, 1, 32, 438], 0),
  (22, 1, .iload_n 1, [], 0),
  (23, 1, .iload_n 2, [], 0),
  (24, 3, .invokevirtual 210, [6, 3, 1, 1, 652], 0),
  (27, 3, .ifCond .ne 6, [18], 0),
  (30, 2, .bipush (-2), [], (-2)),
  (32, 1, .ireturn, [0], 0),
  (33, 1, .aload_n 0, [], 0),
  (34, 1, .iconst 3, [], 3),
  (35, 1, .iload_n 1, [], 0),
  (36, 1, .iload_n 2, [], 0),
  (37, 3, .invokevirtual 195, [83, 4, 1, 6, 575], 0),
  (40, 3, .ifCond .eq 17, [30], 0),
  (43, 1, .aload_n 0, [], 0),
  (44, 3, .getfield 28, [1, 6, 4, 1, 32, 438], 0),
  (47, 1, .iload_n 1, [], 0),
  (48, 3, .invokevirtual 162, [15, 2, 1, 1, 538], 0),
  (51, 3, .invokestatic 205, [164, 1, 1, 0, 642], 0),
  (54, 3, .goto 5, [31], 0),
  (57, 2, .bipush (-3), [], (-3)),
  (59, 1, .ireturn, [0], 0)]
def cC_undo : List am_W := [(0, 1, .aload_n 0, [], 0),
  (1, 3, .getfield 38, [1, 6, 6, 0, 58, 440], 0),
  (4, 3, .getfield 213, [0, 0, 3, 0, 0, 257], 0),
  (7, 3, .ifCond .ne 6, [6], 0),
  (10, 2, .bipush (-2), [], (-2)),
  (12, 1, .ireturn, [0], 0),
  (13, 1, .aload_n 0, [], 0),
  (14, 3, .getfield 38, [1, 6, 6, 0, 58, 440], 0),
  (17, 1, .dup, [], 0),
  (18, 3, .getfield 213, [0, 0, 3, 0, 0, 257], 0),
  (21, 1, .iconst 1, [], 1),
  (22, 1, .isub, [], 0),
  (23, 3, .putfield 213, [0, 0, 3, 0, 0, 257], 0),
  (26, 1, .aload_n 0, [], 0),
  (27, 1, .aload_n 0, [], 0),
  (28, 3, .getfield 28, [1, 6, 4, 1, 32, 438], 0),
  (31, 2, .bipush (-4), [], (-4)),
  (33, 3, .invokevirtual 216, [82, 3, 0, 6, 657], 0),
  (36, 1, .aload_n 0, [], 0),
  (37, 3, .getfield 38, [1, 6, 6, 0, 58, 440], 0),
  (40, 3, .getfield 213, [0, 0, 3, 0, 0, 257], 0),
  (43, 1, .ireturn, [0], 0)]
def cC_meet : List am_W := [(0, 1, .aload_n 0, [], 0),
  (1, 1, .iload_n 1, [], 0),
  (2, 3, .invokevirtual 146, [93, 2, 1, 6, 530], 0),
  (5, 3, .ifCond .eq 19, [12], 0),
  (8, 1, .aload_n 0, [], 0),
  (9, 1, .iload_n 2, [], 0),
  (10, 3, .invokevirtual 146, [93, 2, 1, 6, 530], 0),
  (13, 3, .ifCond .eq 11, [12], 0),
  (16, 1, .iload_n 3, [], 0),
  (17, 1, .iconst 2, [], 2),
  (18, 3, .invokestatic 124, [89, 2, 1, 0, 499], 0),
  (21, 3, .ifCond .ne 5, [14], 0),
  (24, 1, .iconst (-1), [], (-1)),
  (25, 1, .ireturn, [0], 0),
  (26, 2, .ldc 220, [665], 536870912),
  (28, 2, .istore 4, [], 0),
  (30, 2, .bipush (-4), [], (-4)),
  (32, 2, .istore 5, [], 0),
  (34, 1, .iconst 0, [], 0),
  (35, 2, .istore 6, [], 0),
  (37, 0, .nop, [21], 0),
  (37, 2, .iload 6, [], 0),
  (39, 1, .aload_n 0, [], 0),
  (40, 3, .getfield 28, [1, 6, 4, 1, 32, 438], 0),
  (43, 3, .getfield 221, [0, 1, 14, 0, 0, 212], 0),
  (46, 3, .if_icmp .ge 129, [84], 0),
  (49, 1, .iconst 0, [], 0),
  (50, 2, .istore 7, [], 0),
  (52, 0, .nop, [29], 0),
  (52, 2, .iload 7, [], 0),
  (54, 1, .aload_n 0, [], 0),
  (55, 3, .getfield 28, [1, 6, 4, 1, 32, 438], 0),
  (58, 3, .getfield 221, [0, 1, 14, 0, 0, 212], 0),
  (61, 3, .if_icmp .ge 108, [82], 0),
  (64, 2, .iload 6, [], 0),
  (66, 2, .iload 7, [], 0),
  (68, 3, .if_icmp .eq 95, [80], 0),
  (71, 1, .aload_n 0, [], 0),
  (72, 3, .getfield 28, [1, 6, 4, 1, 32, 438], 0),
  (75, 3, .getfield 224, [1, 1, 10, 144, 9, 206], 0),
  (78, 2, .iload 6, [], 0),
  (80, 1, .iaload, [], 0),
  (81, 1, .iload_n 1, [], 0),
  (82, 3, .if_icmp .ne 81, [80], 0),
  (85, 1, .aload_n 0, [], 0),
  (86, 3, .getfield 28, [1, 6, 4, 1, 32, 438], 0),
  (89, 3, .getfield 224, [1, 1, 10, 144, 9, 206], 0),
  (92, 2, .iload 7, [], 0),
  (94, 1, .iaload, [], 0),
  (95, 1, .iload_n 2, [], 0),
  (96, 3, .if_icmp .eq 6, [52], 0),
  (99, 3, .goto 64, [80], 0),
  (102, 1, .aload_n 0, [], 0),
  (103, 3, .getfield 28, [1, 6, 4, 1, 32, 438], 0),
  (106, 2, .iload 6, [], 0),
  (108, 2, .iload 7, [], 0),
  (110, 3, .invokevirtual 227, [17, 3, 1, 1, 666], 0),
  (113, 2, .istore 8, [], 0),
  (115, 1, .aload_n 0, [], 0),
  (116, 3, .getfield 28, [1, 6, 4, 1, 32, 438], 0),
  (119, 3, .getfield 230, [1, 1, 11, 144, 10, 208], 0),
  (122, 2, .iload 6, [], 0),
  (124, 1, .iaload, [], 0),
  (125, 2, .istore 9, [], 0),
  (127, 2, .iload 8, [], 0),
  (129, 2, .iload 4, [], 0),
  (131, 3, .if_icmp .lt 24, [76], 0),
  (134, 2, .iload 8, [], 0),
  (136, 2, .iload 4, [], 0),
  (138, 3, .if_icmp .ne 25, [80], 0),
  (141, 2, .iload 8, [], 0),
  (143, 2, .ldc 220, [665], 536870912),
  (145, 3, .if_icmp .eq 18, [80], 0),
  (148, 2, .iload 9, [], 0),
  (150, 2, .iload 5, [], 0),
  (152, 3, .if_icmp .ge 11, [80], 0),
  (155, 2, .iload 8, [], 0),
  (157, 2, .istore 4, [], 0),
  (159, 2, .iload 9, [], 0),
  (161, 2, .istore 5, [], 0),
  (163, 3, .iinc 7 1, [], 1),
  (166, 3, .goto (-114), [28], 0),
  (169, 3, .iinc 6 1, [], 1),
  (172, 3, .goto (-135), [20], 0),
  (175, 2, .iload 4, [], 0),
  (177, 2, .ldc 220, [665], 536870912),
  (179, 3, .if_icmp .ne 6, [89], 0),
  (182, 2, .bipush (-4), [], (-4)),
  (184, 1, .ireturn, [0], 0),
  (185, 1, .iload_n 3, [], 0),
  (186, 3, .ifCond .ne 11, [94], 0),
  (189, 2, .iload 4, [], 0),
  (191, 3, .invokestatic 155, [88, 1, 1, 0, 534], 0),
  (194, 3, .goto 5, [95], 0),
  (197, 2, .iload 5, [], 0),
  (199, 1, .ireturn, [0], 0)]
def cC_early : List am_W := [(0, 1, .aload_n 0, [], 0),
  (1, 1, .iload_n 1, [], 0),
  (2, 3, .invokevirtual 146, [93, 2, 1, 6, 530], 0),
  (5, 3, .ifCond .eq 30, [17], 0),
  (8, 1, .aload_n 0, [], 0),
  (9, 1, .iload_n 2, [], 0),
  (10, 3, .invokevirtual 104, [91, 2, 1, 6, 495], 0),
  (13, 3, .ifCond .eq 22, [17], 0),
  (16, 1, .iload_n 3, [], 0),
  (17, 3, .ifCond .lt 18, [17], 0),
  (20, 1, .iload_n 3, [], 0),
  (21, 2, .bipush 8, [], 8),
  (23, 3, .if_icmp .gt 12, [17], 0),
  (26, 2, .iload 4, [], 0),
  (28, 1, .iconst 3, [], 3),
  (29, 3, .invokestatic 124, [89, 2, 1, 0, 499], 0),
  (32, 3, .ifCond .ne 5, [19], 0),
  (35, 1, .iconst (-1), [], (-1)),
  (36, 1, .ireturn, [0], 0),
  (37, 2, .ldc 220, [665], 536870912),
  (39, 2, .istore 5, [], 0),
  (41, 2, .bipush (-4), [], (-4)),
  (43, 2, .istore 6, [], 0),
  (45, 2, .bipush (-4), [], (-4)),
  (47, 2, .istore 7, [], 0),
  (49, 1, .aload_n 0, [], 0),
  (50, 3, .getfield 58, [1, 6, 11, 5, 74, 445], 0),
  (53, 1, .aload_n 0, [], 0),
  (54, 3, .getfield 28, [1, 6, 4, 1, 32, 438], 0),
  (57, 3, .getfield 149, [1, 1, 2, 104, 1, 191], 0),
  (60, 1, .iload_n 1, [], 0),
  (61, 1, .iaload, [], 0),
  (62, 1, .aload_n 0, [], 0),
  (63, 3, .getfield 28, [1, 6, 4, 1, 32, 438], 0),
  (66, 3, .getfield 152, [1, 1, 3, 104, 2, 193], 0),
  (69, 1, .iload_n 1, [], 0),
  (70, 1, .iaload, [], 0),
  (71, 3, .invokevirtual 233, [44, 3, 0, 5, 677], 0),
  (74, 1, .iconst 0, [], 0),
  (75, 2, .istore 8, [], 0),
  (77, 0, .nop, [41], 0),
  (77, 2, .iload 8, [], 0),
  (79, 1, .iload_n 3, [], 0),
  (80, 3, .if_icmp .gt 60, [72], 0),
  (83, 1, .aload_n 0, [], 0),
  (84, 3, .getfield 58, [1, 6, 11, 5, 74, 445], 0),
  (87, 3, .getfield 237, [1, 5, 0, 106, 1, 294], 0),
  (90, 1, .iload_n 2, [], 0),
  (91, 1, .iaload, [], 0),
  (92, 2, .iload 5, [], 0),
  (94, 3, .if_icmp .ge 29, [65], 0),
  (97, 1, .aload_n 0, [], 0),
  (98, 3, .getfield 58, [1, 6, 11, 5, 74, 445], 0),
  (101, 3, .getfield 237, [1, 5, 0, 106, 1, 294], 0),
  (104, 1, .iload_n 2, [], 0),
  (105, 1, .iaload, [], 0),
  (106, 2, .istore 5, [], 0),
  (108, 2, .iload 8, [], 0),
  (110, 2, .istore 6, [], 0),
  (112, 1, .aload_n 0, [], 0),
  (113, 3, .getfield 58, [1, 6, 11, 5, 74, 445], 0),
  (116, 3, .getfield 240, [1, 5, 2, 106, 3, 297], 0),
  (119, 1, .iload_n 2, [], 0),
  (120, 1, .iaload, [], 0),
  (121, 2, .istore 7, [], 0),
  (123, 1, .aload_n 0, [], 0),
  (124, 3, .getfield 58, [1, 6, 11, 5, 74, 445], 0),
  (127, 1, .aload_n 0, [], 0),
  (128, 3, .getfield 16, [2, 6, 2, 2, 0, 436], 0),
  (131, 3, .invokevirtual 243, [45, 2, 0, 5, 685], 0),
  (134, 3, .iinc 8 1, [], 1),
  (137, 3, .goto (-60), [40], 0),
  (140, 2, .iload 5, [], 0),
  (142, 2, .ldc 220, [665], 536870912),
  (144, 3, .if_icmp .ne 6, [77], 0),
  (147, 2, .bipush (-4), [], (-4)),
  (149, 1, .ireturn, [0], 0),
  (150, 2, .iload 4, [], 0),
  (152, 3, .ifCond .ne 11, [82], 0),
  (155, 2, .iload 5, [], 0),
  (157, 3, .invokestatic 155, [88, 1, 1, 0, 534], 0),
  (160, 3, .goto 16, [88], 0),
  (163, 2, .iload 4, [], 0),
  (165, 1, .iconst 1, [], 1),
  (166, 3, .if_icmp .ne 8, [87], 0),
  (169, 2, .iload 6, [], 0),
  (171, 3, .goto 5, [88], 0),
  (174, 2, .iload 7, [], 0),
  (176, 1, .ireturn, [0], 0)]
def cC_ring : List am_W := [(0, 1, .iload_n 1, [], 0),
  (1, 1, .iconst 3, [], 3),
  (2, 3, .invokestatic 124, [89, 2, 1, 0, 499], 0),
  (5, 3, .ifCond .ne 5, [6], 0),
  (8, 1, .iconst (-1), [], (-1)),
  (9, 1, .ireturn, [0], 0),
  (10, 2, .bipush 9, [], 9),
  (12, 1, .istore_n 2, [], 0),
  (13, 2, .bipush (-4), [], (-4)),
  (15, 1, .istore_n 3, [], 0),
  (16, 2, .bipush (-4), [], (-4)),
  (18, 2, .istore 4, [], 0),
  (20, 1, .iconst 0, [], 0),
  (21, 2, .istore 5, [], 0),
  (23, 0, .nop, [15], 0),
  (23, 2, .iload 5, [], 0),
  (25, 1, .aload_n 0, [], 0),
  (26, 3, .getfield 16, [2, 6, 2, 2, 0, 436], 0),
  (29, 3, .getfield 101, [0, 2, 14, 0, 0, 127], 0),
  (32, 3, .if_icmp .ge 77, [57], 0),
  (35, 1, .aload_n 0, [], 0),
  (36, 3, .getfield 58, [1, 6, 11, 5, 74, 445], 0),
  (39, 2, .iload 5, [], 0),
  (41, 1, .iconst 0, [], 0),
  (42, 3, .invokevirtual 233, [44, 3, 0, 5, 677], 0),
  (45, 1, .iconst 1, [], 1),
  (46, 2, .istore 6, [], 0),
  (48, 0, .nop, [28], 0),
  (48, 2, .iload 6, [], 0),
  (50, 1, .iload_n 2, [], 0),
  (51, 3, .if_icmp .ge 52, [55], 0),
  (54, 1, .aload_n 0, [], 0),
  (55, 3, .getfield 58, [1, 6, 11, 5, 74, 445], 0),
  (58, 1, .aload_n 0, [], 0),
  (59, 3, .getfield 16, [2, 6, 2, 2, 0, 436], 0),
  (62, 3, .invokevirtual 243, [45, 2, 0, 5, 685], 0),
  (65, 1, .aload_n 0, [], 0),
  (66, 3, .getfield 58, [1, 6, 11, 5, 74, 445], 0),
  (69, 3, .getfield 237, [1, 5, 0, 106, 1, 294], 0),
  (72, 2, .iload 5, [], 0),
  (74, 1, .iaload, [], 0),
  (75, 3, .ifCond .ge 22, [53], 0),
  (78, 2, .iload 6, [], 0),
  (80, 1, .istore_n 2, [], 0),
  (81, 2, .iload 5, [], 0),
  (83, 1, .istore_n 3, [], 0),
  (84, 1, .aload_n 0, [], 0),
  (85, 3, .getfield 58, [1, 6, 11, 5, 74, 445], 0),
  (88, 3, .getfield 237, [1, 5, 0, 106, 1, 294], 0),
  (91, 2, .iload 5, [], 0),
  (93, 1, .iaload, [], 0),
  (94, 1, .ineg, [], 0),
  (95, 2, .istore 4, [], 0),
  (97, 3, .iinc 6 1, [], 1),
  (100, 3, .goto (-52), [27], 0),
  (103, 3, .iinc 5 1, [], 1),
  (106, 3, .goto (-83), [14], 0),
  (109, 1, .iload_n 3, [], 0),
  (110, 2, .bipush (-4), [], (-4)),
  (112, 3, .if_icmp .ne 6, [62], 0),
  (115, 2, .bipush (-4), [], (-4)),
  (117, 1, .ireturn, [0], 0),
  (118, 1, .iload_n 1, [], 0),
  (119, 3, .ifCond .ne 7, [66], 0),
  (122, 1, .iload_n 2, [], 0),
  (123, 3, .goto 14, [72], 0),
  (126, 1, .iload_n 1, [], 0),
  (127, 1, .iconst 1, [], 1),
  (128, 3, .if_icmp .ne 7, [71], 0),
  (131, 1, .iload_n 3, [], 0),
  (132, 3, .goto 5, [72], 0),
  (135, 2, .iload 4, [], 0),
  (137, 1, .ireturn, [0], 0)]
def cC_even : List am_W := [(0, 1, .aload_n 0, [], 0),
  (1, 3, .getfield 58, [1, 6, 11, 5, 74, 445], 0),
  (4, 1, .aload_n 0, [], 0),
  (5, 3, .getfield 16, [2, 6, 2, 2, 0, 436], 0),
  (8, 3, .invokevirtual 246, [47, 2, 1, 5, 710], 0),
  (11, 3, .ifCond .eq 7, [8], 0),
  (14, 1, .iconst 1, [], 1),
  (15, 3, .goto 4, [9], 0),
  (18, 1, .iconst 0, [], 0),
  (19, 1, .ireturn, [0], 0)]
def cC_round : List am_W := [(0, 1, .aload_n 0, [], 0),
  (1, 1, .iload_n 1, [], 0),
  (2, 3, .invokevirtual 146, [93, 2, 1, 6, 530], 0),
  (5, 3, .ifCond .eq 28, [17], 0),
  (8, 1, .iload_n 2, [], 0),
  (9, 3, .ifCond .lt 24, [17], 0),
  (12, 1, .iload_n 2, [], 0),
  (13, 1, .iconst 1, [], 1),
  (14, 1, .aload_n 0, [], 0),
  (15, 3, .getfield 16, [2, 6, 2, 2, 0, 436], 0),
  (18, 3, .getfield 101, [0, 2, 14, 0, 0, 127], 0),
  (21, 1, .ishl, [], 0),
  (22, 3, .if_icmp .ge 11, [17], 0),
  (25, 1, .iload_n 3, [], 0),
  (26, 1, .iconst 2, [], 2),
  (27, 3, .invokestatic 124, [89, 2, 1, 0, 499], 0),
  (30, 3, .ifCond .ne 5, [19], 0),
  (33, 1, .iconst (-1), [], (-1)),
  (34, 1, .ireturn, [0], 0),
  (35, 1, .aload_n 0, [], 0),
  (36, 3, .getfield 65, [1, 6, 12, 4, 79, 446], 0),
  (39, 1, .aload_n 0, [], 0),
  (40, 3, .getfield 16, [2, 6, 2, 2, 0, 436], 0),
  (43, 1, .iload_n 2, [], 0),
  (44, 1, .aload_n 0, [], 0),
  (45, 3, .getfield 28, [1, 6, 4, 1, 32, 438], 0),
  (48, 3, .getfield 149, [1, 1, 2, 104, 1, 191], 0),
  (51, 1, .iload_n 1, [], 0),
  (52, 1, .iaload, [], 0),
  (53, 1, .aload_n 0, [], 0),
  (54, 3, .getfield 28, [1, 6, 4, 1, 32, 438], 0),
  (57, 3, .getfield 152, [1, 1, 3, 104, 2, 193], 0),
  (60, 1, .iload_n 1, [], 0),
  (61, 1, .iaload, [], 0),
  (62, 3, .invokevirtual 250, [39, 5, 0, 4, 722], 0),
  (65, 1, .aload_n 0, [], 0),
  (66, 3, .getfield 65, [1, 6, 12, 4, 79, 446], 0),
  (69, 3, .getfield 254, [0, 4, 3, 0, 0, 319], 0),
  (72, 2, .bipush (-4), [], (-4)),
  (74, 3, .if_icmp .ne 6, [42], 0),
  (77, 2, .bipush (-4), [], (-4)),
  (79, 1, .ireturn, [0], 0),
  (80, 1, .iload_n 3, [], 0),
  (81, 3, .ifCond .ne 16, [49], 0),
  (84, 1, .aload_n 0, [], 0),
  (85, 3, .getfield 65, [1, 6, 12, 4, 79, 446], 0),
  (88, 3, .getfield 257, [0, 4, 2, 0, 0, 317], 0),
  (91, 3, .invokestatic 155, [88, 1, 1, 0, 534], 0),
  (94, 3, .goto 10, [52], 0),
  (97, 1, .aload_n 0, [], 0),
  (98, 3, .getfield 65, [1, 6, 12, 4, 79, 446], 0),
  (101, 3, .getfield 254, [0, 4, 3, 0, 0, 319], 0),
  (104, 1, .ireturn, [0], 0)]
def cC_hour : List am_W := [(0, 1, .aload_n 0, [], 0),
  (1, 1, .iload_n 1, [], 0),
  (2, 3, .invokevirtual 146, [93, 2, 1, 6, 530], 0),
  (5, 3, .ifCond .eq 12, [8], 0),
  (8, 1, .iload_n 2, [], 0),
  (9, 2, .bipush 24, [], 24),
  (11, 3, .invokestatic 124, [89, 2, 1, 0, 499], 0),
  (14, 3, .ifCond .ne 5, [10], 0),
  (17, 1, .iconst (-1), [], (-1)),
  (18, 1, .ireturn, [0], 0),
  (19, 1, .aload_n 0, [], 0),
  (20, 3, .getfield 28, [1, 6, 4, 1, 32, 438], 0),
  (23, 3, .getfield 149, [1, 1, 2, 104, 1, 191], 0),
  (26, 1, .iload_n 1, [], 0),
  (27, 1, .iaload, [], 0),
  (28, 2, .istore 4, [], 0),
  (30, 1, .aload_n 0, [], 0),
  (31, 3, .getfield 28, [1, 6, 4, 1, 32, 438], 0),
  (34, 3, .getfield 152, [1, 1, 3, 104, 2, 193], 0),
  (37, 1, .iload_n 1, [], 0),
  (38, 1, .iaload, [], 0),
  (39, 2, .istore 5, [], 0),
  (41, 1, .iload_n 3, [], 0),
  (42, 26, .tableswitch 93 0 2 #[26, 41, 83], [60, 0, 24, 1, 32, 2, 54], 0),
  (68, 2, .iload 5, [], 0),
  (70, 1, .iload_n 2, [], 0),
  (71, 2, .bipush 12, [], 12),
  (73, 1, .imul, [], 0),
  (74, 2, .bipush 12, [], 12),
  (76, 3, .invokestatic 260, [85, 3, 1, 0, 752], 0),
  (79, 3, .invokestatic 155, [88, 1, 1, 0, 534], 0),
  (82, 1, .ireturn, [0], 0),
  (83, 2, .iload 5, [], 0),
  (85, 1, .iload_n 2, [], 0),
  (86, 1, .aload_n 0, [], 0),
  (87, 3, .getfield 16, [2, 6, 2, 2, 0, 436], 0),
  (90, 3, .getfield 115, [1, 2, 2, 106, 3, 96], 0),
  (93, 2, .iload 4, [], 0),
  (95, 1, .iaload, [], 0),
  (96, 1, .isub, [], 0),
  (97, 1, .aload_n 0, [], 0),
  (98, 3, .getfield 16, [2, 6, 2, 2, 0, 436], 0),
  (101, 3, .getfield 118, [1, 2, 3, 106, 4, 99], 0),
  (104, 2, .iload 4, [], 0),
  (106, 1, .iaload, [], 0),
  (107, 1, .imul, [], 0),
  (108, 1, .aload_n 0, [], 0),
  (109, 3, .getfield 16, [2, 6, 2, 2, 0, 436], 0),
  (112, 3, .getfield 118, [1, 2, 3, 106, 4, 99], 0),
  (115, 2, .iload 4, [], 0),
  (117, 1, .iaload, [], 0),
  (118, 3, .invokestatic 260, [85, 3, 1, 0, 752], 0),
  (121, 3, .invokestatic 155, [88, 1, 1, 0, 534], 0),
  (124, 1, .ireturn, [0], 0),
  (125, 1, .aload_n 0, [], 0),
  (126, 1, .iload_n 1, [], 0),
  (127, 1, .iload_n 2, [], 0),
  (128, 3, .invokevirtual 264, [84, 3, 1, 6, 755], 0),
  (131, 3, .invokestatic 155, [88, 1, 1, 0, 534], 0),
  (134, 1, .ireturn, [0], 0),
  (135, 1, .iconst (-1), [], (-1)),
  (136, 1, .ireturn, [0], 0)]
def cC_agreed : List am_W := [(0, 1, .aload_n 0, [], 0),
  (1, 1, .iload_n 1, [], 0),
  (2, 3, .invokevirtual 146, [93, 2, 1, 6, 530], 0),
  (5, 3, .ifCond .eq 25, [15], 0),
  (8, 1, .aload_n 0, [], 0),
  (9, 1, .iload_n 2, [], 0),
  (10, 3, .invokevirtual 146, [93, 2, 1, 6, 530], 0),
  (13, 3, .ifCond .eq 17, [15], 0),
  (16, 1, .iload_n 1, [], 0),
  (17, 1, .iload_n 2, [], 0),
  (18, 3, .if_icmp .eq 12, [15], 0),
  (21, 1, .iload_n 3, [], 0),
  (22, 2, .bipush 24, [], 24),
  (24, 3, .invokestatic 124, [89, 2, 1, 0, 499], 0),
  (27, 3, .ifCond .ne 5, [17], 0),
  (30, 1, .iconst (-1), [], (-1)),
  (31, 1, .ireturn, [0], 0),
  (32, 1, .aload_n 0, [], 0),
  (33, 1, .iload_n 2, [], 0),
  (34, 1, .iload_n 3, [], 0),
  (35, 3, .invokevirtual 264, [84, 3, 1, 6, 755], 0),
  (38, 2, .istore 4, [], 0),
  (40, 2, .bipush 24, [], 24),
  (42, 1, .aload_n 0, [], 0),
  (43, 3, .getfield 16, [2, 6, 2, 2, 0, 436], 0),
  (46, 3, .getfield 118, [1, 2, 3, 106, 4, 99], 0),
  (49, 1, .aload_n 0, [], 0),
  (50, 3, .getfield 28, [1, 6, 4, 1, 32, 438], 0),
  (53, 3, .getfield 149, [1, 1, 2, 104, 1, 191], 0),
  (56, 1, .iload_n 1, [], 0),
  (57, 1, .iaload, [], 0),
  (58, 1, .iaload, [], 0),
  (59, 1, .imul, [], 0),
  (60, 2, .istore 5, [], 0),
  (62, 2, .bipush 24, [], 24),
  (64, 1, .aload_n 0, [], 0),
  (65, 3, .getfield 16, [2, 6, 2, 2, 0, 436], 0),
  (68, 3, .getfield 118, [1, 2, 3, 106, 4, 99], 0),
  (71, 1, .aload_n 0, [], 0),
  (72, 3, .getfield 28, [1, 6, 4, 1, 32, 438], 0),
  (75, 3, .getfield 149, [1, 1, 2, 104, 1, 191], 0),
  (78, 1, .iload_n 2, [], 0),
  (79, 1, .iaload, [], 0),
  (80, 1, .iaload, [], 0),
  (81, 1, .imul, [], 0),
  (82, 2, .istore 6, [], 0),
  (84, 2, .iload 5, [], 0),
  (86, 1, .iconst 1, [], 1),
  (87, 3, .if_icmp .lt 9, [52], 0),
  (90, 2, .iload 6, [], 0),
  (92, 1, .iconst 1, [], 1),
  (93, 3, .if_icmp .ge 6, [54], 0),
  (96, 2, .bipush (-4), [], (-4)),
  (98, 1, .ireturn, [0], 0),
  (99, 1, .aload_n 0, [], 0),
  (100, 1, .iload_n 1, [], 0),
  (101, 1, .iload_n 3, [], 0),
  (102, 3, .invokevirtual 264, [84, 3, 1, 6, 755], 0),
  (105, 2, .istore 7, [], 0),
  (107, 0, .nop, [60], 0),
  (107, 2, .iload 7, [], 0),
  (109, 3, .sipush 9999, [], 9999),
  (112, 3, .if_icmp .gt 37, [80], 0),
  (115, 2, .iload 7, [], 0),
  (117, 2, .iload 4, [], 0),
  (119, 3, .if_icmp .lt 20, [75], 0),
  (122, 2, .iload 7, [], 0),
  (124, 2, .iload 4, [], 0),
  (126, 1, .isub, [], 0),
  (127, 2, .iload 6, [], 0),
  (129, 1, .irem, [], 0),
  (130, 3, .ifCond .ne 9, [75], 0),
  (133, 2, .iload 7, [], 0),
  (135, 3, .invokestatic 155, [88, 1, 1, 0, 534], 0),
  (138, 1, .ireturn, [0], 0),
  (139, 2, .iload 7, [], 0),
  (141, 2, .iload 5, [], 0),
  (143, 1, .iadd, [], 0),
  (144, 2, .istore 7, [], 0),
  (146, 3, .goto (-39), [59], 0),
  (149, 2, .bipush (-4), [], (-4)),
  (151, 1, .ireturn, [0], 0)]
def cC_shelf : List am_W := [(0, 1, .aload_n 0, [], 0),
  (1, 1, .iload_n 1, [], 0),
  (2, 3, .invokevirtual 168, [94, 2, 1, 6, 550], 0),
  (5, 3, .ifCond .eq 14, [10], 0),
  (8, 1, .iload_n 2, [], 0),
  (9, 1, .iconst 1, [], 1),
  (10, 3, .if_icmp .lt 9, [10], 0),
  (13, 1, .iload_n 2, [], 0),
  (14, 2, .bipush 99, [], 99),
  (16, 3, .if_icmp .le 5, [12], 0),
  (19, 1, .iconst (-1), [], (-1)),
  (20, 1, .ireturn, [0], 0),
  (21, 2, .bipush (-4), [], (-4)),
  (23, 1, .istore_n 3, [], 0),
  (24, 1, .iconst (-1), [], (-1)),
  (25, 2, .istore 4, [], 0),
  (27, 1, .iconst 0, [], 0),
  (28, 2, .istore 5, [], 0),
  (30, 0, .nop, [19], 0),
  (30, 2, .iload 5, [], 0),
  (32, 1, .aload_n 0, [], 0),
  (33, 3, .getfield 16, [2, 6, 2, 2, 0, 436], 0),
  (36, 3, .getfield 101, [0, 2, 14, 0, 0, 127], 0),
  (39, 3, .if_icmp .ge 62, [55], 0),
  (42, 1, .aload_n 0, [], 0),
  (43, 3, .getfield 28, [1, 6, 4, 1, 32, 438], 0),
  (46, 3, .getfield 186, [1, 1, 9, 105, 8, 204], 0),
  (49, 1, .iload_n 1, [], 0),
  (50, 1, .iaload, [], 0),
  (51, 1, .iload_n 2, [], 0),
  (52, 2, .bipush 12, [], 12),
  (54, 1, .imul, [], 0),
  (55, 1, .aload_n 0, [], 0),
  (56, 3, .getfield 16, [2, 6, 2, 2, 0, 436], 0),
  (59, 3, .getfield 267, [1, 2, 4, 106, 5, 103], 0),
  (62, 2, .iload 5, [], 0),
  (64, 1, .iaload, [], 0),
  (65, 1, .imul, [], 0),
  (66, 1, .iadd, [], 0),
  (67, 2, .istore 6, [], 0),
  (69, 1, .aload_n 0, [], 0),
  (70, 3, .getfield 16, [2, 6, 2, 2, 0, 436], 0),
  (73, 1, .iload_n 1, [], 0),
  (74, 2, .iload 6, [], 0),
  (76, 3, .invokevirtual 192, [33, 3, 1, 2, 566], 0),
  (79, 2, .istore 7, [], 0),
  (81, 2, .iload 7, [], 0),
  (83, 2, .iload 4, [], 0),
  (85, 3, .if_icmp .le 10, [53], 0),
  (88, 2, .iload 7, [], 0),
  (90, 2, .istore 4, [], 0),
  (92, 2, .iload 5, [], 0),
  (94, 1, .istore_n 3, [], 0),
  (95, 3, .iinc 5 1, [], 1),
  (98, 3, .goto (-68), [18], 0),
  (101, 1, .iload_n 3, [], 0),
  (102, 1, .ireturn, [0], 0)]
def cC_seen : List am_W := [(0, 1, .aload_n 0, [], 0),
  (1, 1, .iload_n 1, [], 0),
  (2, 3, .invokevirtual 104, [91, 2, 1, 6, 495], 0),
  (5, 3, .ifCond .eq 25, [15], 0),
  (8, 1, .iload_n 2, [], 0),
  (9, 1, .iconst 1, [], 1),
  (10, 3, .if_icmp .lt 20, [15], 0),
  (13, 1, .iload_n 2, [], 0),
  (14, 2, .bipush 99, [], 99),
  (16, 3, .if_icmp .gt 14, [15], 0),
  (19, 1, .iload_n 3, [], 0),
  (20, 3, .ifCond .lt 10, [15], 0),
  (23, 1, .iload_n 3, [], 0),
  (24, 3, .sipush 400, [], 400),
  (27, 3, .if_icmp .le 5, [17], 0),
  (30, 1, .iconst (-1), [], (-1)),
  (31, 1, .ireturn, [0], 0),
  (32, 1, .aload_n 0, [], 0),
  (33, 3, .getfield 51, [1, 6, 10, 3, 70, 444], 0),
  (36, 1, .iload_n 1, [], 0),
  (37, 1, .iload_n 2, [], 0),
  (38, 1, .iload_n 3, [], 0),
  (39, 3, .invokevirtual 270, [34, 4, 1, 3, 771], 0),
  (42, 3, .ifCond .eq 13, [28], 0),
  (45, 1, .aload_n 0, [], 0),
  (46, 3, .getfield 51, [1, 6, 10, 3, 70, 444], 0),
  (49, 3, .getfield 273, [0, 3, 3, 0, 0, 277], 0),
  (52, 3, .goto 5, [29], 0),
  (55, 2, .bipush (-3), [], (-3)),
  (57, 1, .ireturn, [0], 0)]
def cC_forget : List am_W := [(0, 1, .aload_n 0, [], 0),
  (1, 3, .getfield 51, [1, 6, 10, 3, 70, 444], 0),
  (4, 3, .getfield 273, [0, 3, 3, 0, 0, 277], 0),
  (7, 1, .istore_n 1, [], 0),
  (8, 1, .aload_n 0, [], 0),
  (9, 3, .getfield 51, [1, 6, 10, 3, 70, 444], 0),
  (12, 1, .iconst 0, [], 0),
  (13, 3, .putfield 273, [0, 3, 3, 0, 0, 277], 0),
  (16, 1, .iload_n 1, [], 0),
  (17, 1, .ireturn, [0], 0)]
def cC_paces : List am_W := [(0, 1, .aload_n 0, [], 0),
  (1, 1, .iload_n 1, [], 0),
  (2, 3, .invokevirtual 104, [91, 2, 1, 6, 495], 0),
  (5, 3, .ifCond .eq 14, [9], 0),
  (8, 1, .aload_n 0, [], 0),
  (9, 3, .getfield 51, [1, 6, 10, 3, 70, 444], 0),
  (12, 1, .iload_n 1, [], 0),
  (13, 3, .invokevirtual 274, [35, 2, 1, 3, 783], 0),
  (16, 3, .goto 4, [10], 0),
  (19, 1, .iconst (-1), [], (-1)),
  (20, 1, .ireturn, [0], 0)]
def cC_look : List am_W := [(0, 1, .aload_n 0, [], 0),
  (1, 1, .iload_n 1, [], 0),
  (2, 3, .invokevirtual 104, [91, 2, 1, 6, 495], 0),
  (5, 3, .ifCond .eq 11, [8], 0),
  (8, 1, .iload_n 2, [], 0),
  (9, 1, .iconst 2, [], 2),
  (10, 3, .invokestatic 124, [89, 2, 1, 0, 499], 0),
  (13, 3, .ifCond .ne 5, [10], 0),
  (16, 1, .iconst (-1), [], (-1)),
  (17, 1, .ireturn, [0], 0),
  (18, 1, .aload_n 0, [], 0),
  (19, 3, .getfield 51, [1, 6, 10, 3, 70, 444], 0),
  (22, 1, .iload_n 1, [], 0),
  (23, 3, .invokevirtual 274, [35, 2, 1, 3, 783], 0),
  (26, 1, .istore_n 3, [], 0),
  (27, 1, .iload_n 3, [], 0),
  (28, 3, .ifCond .ne 6, [19], 0),
  (31, 2, .bipush (-4), [], (-4)),
  (33, 1, .ireturn, [0], 0),
  (34, 2, .bipush (-4), [], (-4)),
  (36, 2, .istore 4, [], 0),
  (38, 2, .ldc 220, [665], 536870912),
  (40, 2, .istore 5, [], 0),
  (42, 1, .iconst 1, [], 1),
  (43, 2, .istore 6, [], 0),
  (45, 0, .nop, [26], 0),
  (45, 2, .iload 6, [], 0),
  (47, 2, .bipush 24, [], 24),
  (49, 3, .if_icmp .gt 36, [44], 0),
  (52, 1, .aload_n 0, [], 0),
  (53, 3, .getfield 51, [1, 6, 10, 3, 70, 444], 0),
  (56, 1, .iload_n 3, [], 0),
  (57, 2, .iload 6, [], 0),
  (59, 3, .invokevirtual 277, [37, 3, 1, 3, 799], 0),
  (62, 2, .istore 7, [], 0),
  (64, 2, .iload 7, [], 0),
  (66, 2, .iload 5, [], 0),
  (68, 3, .if_icmp .ge 11, [42], 0),
  (71, 2, .iload 7, [], 0),
  (73, 2, .istore 5, [], 0),
  (75, 2, .iload 6, [], 0),
  (77, 2, .istore 4, [], 0),
  (79, 3, .iinc 6 1, [], 1),
  (82, 3, .goto (-37), [25], 0),
  (85, 1, .iload_n 2, [], 0),
  (86, 3, .ifCond .ne 8, [48], 0),
  (89, 2, .iload 4, [], 0),
  (91, 3, .goto 5, [49], 0),
  (94, 2, .iload 5, [], 0),
  (96, 1, .ireturn, [0], 0)]
def cC_mended : List am_W := [(0, 1, .aload_n 0, [], 0),
  (1, 1, .iload_n 1, [], 0),
  (2, 3, .invokevirtual 104, [91, 2, 1, 6, 495], 0),
  (5, 3, .ifCond .ne 5, [6], 0),
  (8, 1, .iconst (-1), [], (-1)),
  (9, 1, .ireturn, [0], 0),
  (10, 1, .aload_n 0, [], 0),
  (11, 1, .aload_n 0, [], 0),
  (12, 3, .getfield 32, [1, 6, 5, 1, 45, 439], 0),
  (15, 1, .iload_n 1, [], 0),
  (16, 3, .invokevirtual 216, [82, 3, 0, 6, 657], 0),
  (19, 1, .iconst 0, [], 0),
  (20, 1, .istore_n 2, [], 0),
  (21, 1, .iconst 0, [], 0),
  (22, 1, .istore_n 3, [], 0),
  (23, 0, .nop, [16], 0),
  (23, 1, .iload_n 3, [], 0),
  (24, 1, .aload_n 0, [], 0),
  (25, 3, .getfield 16, [2, 6, 2, 2, 0, 436], 0),
  (28, 3, .getfield 98, [0, 2, 16, 0, 0, 134], 0),
  (31, 3, .if_icmp .ge 36, [40], 0),
  (34, 1, .aload_n 0, [], 0),
  (35, 3, .getfield 32, [1, 6, 5, 1, 45, 439], 0),
  (38, 3, .getfield 152, [1, 1, 3, 104, 2, 193], 0),
  (41, 1, .iload_n 3, [], 0),
  (42, 1, .iaload, [], 0),
  (43, 1, .aload_n 0, [], 0),
  (44, 3, .getfield 28, [1, 6, 4, 1, 32, 438], 0),
  (47, 3, .getfield 152, [1, 1, 3, 104, 2, 193], 0),
  (50, 1, .iload_n 3, [], 0),
  (51, 1, .iaload, [], 0),
  (52, 3, .if_icmp .eq 9, [38], 0),
  (55, 1, .iload_n 2, [], 0),
  (56, 1, .iconst 1, [], 1),
  (57, 1, .iload_n 3, [], 0),
  (58, 1, .ishl, [], 0),
  (59, 1, .ior, [], 0),
  (60, 1, .istore_n 2, [], 0),
  (61, 3, .iinc 3 1, [], 1),
  (64, 3, .goto (-41), [15], 0),
  (67, 1, .iload_n 2, [], 0),
  (68, 1, .ireturn, [0], 0)]
def cC_day : List am_W := [(0, 1, .iload_n 1, [], 0),
  (1, 3, .sipush 10000, [], 10000),
  (4, 3, .invokestatic 124, [89, 2, 1, 0, 499], 0),
  (7, 3, .ifCond .eq 19, [12], 0),
  (10, 1, .aload_n 0, [], 0),
  (11, 1, .iload_n 2, [], 0),
  (12, 3, .invokevirtual 146, [93, 2, 1, 6, 530], 0),
  (15, 3, .ifCond .eq 11, [12], 0),
  (18, 1, .iload_n 3, [], 0),
  (19, 1, .iconst 2, [], 2),
  (20, 3, .invokestatic 124, [89, 2, 1, 0, 499], 0),
  (23, 3, .ifCond .ne 5, [14], 0),
  (26, 1, .iconst (-1), [], (-1)),
  (27, 1, .ireturn, [0], 0),
  (28, 1, .aload_n 0, [], 0),
  (29, 3, .getfield 28, [1, 6, 4, 1, 32, 438], 0),
  (32, 3, .getfield 149, [1, 1, 2, 104, 1, 191], 0),
  (35, 1, .iload_n 2, [], 0),
  (36, 1, .iaload, [], 0),
  (37, 2, .istore 4, [], 0),
  (39, 1, .aload_n 0, [], 0),
  (40, 3, .getfield 28, [1, 6, 4, 1, 32, 438], 0),
  (43, 3, .getfield 152, [1, 1, 3, 104, 2, 193], 0),
  (46, 1, .iload_n 2, [], 0),
  (47, 1, .iaload, [], 0),
  (48, 2, .istore 5, [], 0),
  (50, 1, .iconst 0, [], 0),
  (51, 2, .istore 6, [], 0),
  (53, 0, .nop, [29], 0),
  (53, 2, .iload 6, [], 0),
  (55, 2, .bipush 12, [], 12),
  (57, 3, .if_icmp .ge 119, [91], 0),
  (60, 1, .iload_n 1, [], 0),
  (61, 2, .iload 6, [], 0),
  (63, 3, .invokestatic 280, [86, 2, 1, 0, 811], 0),
  (66, 2, .istore 7, [], 0),
  (68, 2, .iload 7, [], 0),
  (70, 1, .iconst 3, [], 3),
  (71, 1, .irem, [], 0),
  (72, 3, .ifCond .ne 30, [57], 0),
  (75, 2, .iload 5, [], 0),
  (77, 2, .iload 7, [], 0),
  (79, 1, .iconst 4, [], 4),
  (80, 1, .idiv, [], 0),
  (81, 1, .iconst 3, [], 3),
  (82, 1, .irem, [], 0),
  (83, 1, .iconst 1, [], 1),
  (84, 1, .iadd, [], 0),
  (85, 1, .aload_n 0, [], 0),
  (86, 3, .getfield 16, [2, 6, 2, 2, 0, 436], 0),
  (89, 3, .getfield 118, [1, 2, 3, 106, 4, 99], 0),
  (92, 2, .iload 4, [], 0),
  (94, 1, .iaload, [], 0),
  (95, 1, .imul, [], 0),
  (96, 1, .iadd, [], 0),
  (97, 2, .istore 5, [], 0),
  (99, 3, .goto 71, [89], 0),
  (102, 1, .aload_n 0, [], 0),
  (103, 3, .getfield 16, [2, 6, 2, 2, 0, 436], 0),
  (106, 3, .getfield 283, [0, 2, 15, 0, 0, 131], 0),
  (109, 3, .ifCond .le 61, [89], 0),
  (112, 2, .iload 7, [], 0),
  (114, 2, .bipush 8, [], 8),
  (116, 1, .idiv, [], 0),
  (117, 1, .aload_n 0, [], 0),
  (118, 3, .getfield 16, [2, 6, 2, 2, 0, 436], 0),
  (121, 3, .getfield 283, [0, 2, 15, 0, 0, 131], 0),
  (124, 1, .irem, [], 0),
  (125, 2, .istore 8, [], 0),
  (127, 1, .aload_n 0, [], 0),
  (128, 3, .getfield 16, [2, 6, 2, 2, 0, 436], 0),
  (131, 2, .iload 8, [], 0),
  (133, 2, .iload 4, [], 0),
  (135, 3, .invokevirtual 286, [29, 3, 1, 2, 817], 0),
  (138, 3, .ifCond .eq 32, [89], 0),
  (141, 2, .iload 5, [], 0),
  (143, 1, .aload_n 0, [], 0),
  (144, 3, .getfield 16, [2, 6, 2, 2, 0, 436], 0),
  (147, 2, .iload 8, [], 0),
  (149, 2, .iload 4, [], 0),
  (151, 3, .invokevirtual 289, [32, 3, 1, 2, 818], 0),
  (154, 1, .iadd, [], 0),
  (155, 2, .istore 5, [], 0),
  (157, 1, .aload_n 0, [], 0),
  (158, 3, .getfield 16, [2, 6, 2, 2, 0, 436], 0),
  (161, 2, .iload 8, [], 0),
  (163, 2, .iload 4, [], 0),
  (165, 3, .invokevirtual 292, [30, 3, 1, 2, 819], 0),
  (168, 2, .istore 4, [], 0),
  (170, 3, .iinc 6 1, [], 1),
  (173, 3, .goto (-120), [28], 0),
  (176, 1, .iload_n 3, [], 0),
  (177, 3, .ifCond .ne 11, [96], 0),
  (180, 2, .iload 5, [], 0),
  (182, 3, .invokestatic 155, [88, 1, 1, 0, 534], 0),
  (185, 3, .goto 5, [97], 0),
  (188, 2, .iload 4, [], 0),
  (190, 1, .ireturn, [0], 0)]
def cC_keep : List am_W := [(0, 1, .aload_n 0, [], 0),
  (1, 3, .getfield 295, [0, 6, 9, 0, 0, 443], 0),
  (4, 1, .iconst 2, [], 2),
  (5, 3, .if_icmp .lt 6, [6], 0),
  (8, 2, .bipush (-3), [], (-3)),
  (10, 1, .ireturn, [0], 0),
  (11, 1, .aload_n 0, [], 0),
  (12, 3, .getfield 295, [0, 6, 9, 0, 0, 443], 0),
  (15, 3, .ifCond .ne 10, [12], 0),
  (18, 1, .aload_n 0, [], 0),
  (19, 3, .getfield 42, [1, 6, 7, 0, 62, 441], 0),
  (22, 3, .goto 7, [14], 0),
  (25, 1, .aload_n 0, [], 0),
  (26, 3, .getfield 45, [1, 6, 8, 0, 66, 442], 0),
  (29, 1, .aload_n 0, [], 0),
  (30, 3, .getfield 38, [1, 6, 6, 0, 58, 440], 0),
  (33, 3, .invokevirtual 298, [1, 2, 0, 0, 824], 0),
  (36, 1, .aload_n 0, [], 0),
  (37, 1, .dup, [], 0),
  (38, 3, .getfield 295, [0, 6, 9, 0, 0, 443], 0),
  (41, 1, .iconst 1, [], 1),
  (42, 1, .iadd, [], 0),
  (43, 3, .putfield 295, [0, 6, 9, 0, 0, 443], 0),
  (46, 1, .aload_n 0, [], 0),
  (47, 3, .getfield 295, [0, 6, 9, 0, 0, 443], 0),
  (50, 1, .ireturn, [0], 0)]
def cC_back : List am_W := [(0, 1, .aload_n 0, [], 0),
  (1, 3, .getfield 295, [0, 6, 9, 0, 0, 443], 0),
  (4, 3, .ifCond .ne 6, [5], 0),
  (7, 2, .bipush (-2), [], (-2)),
  (9, 1, .ireturn, [0], 0),
  (10, 1, .aload_n 0, [], 0),
  (11, 1, .dup, [], 0),
  (12, 3, .getfield 295, [0, 6, 9, 0, 0, 443], 0),
  (15, 1, .iconst 1, [], 1),
  (16, 1, .isub, [], 0),
  (17, 3, .putfield 295, [0, 6, 9, 0, 0, 443], 0),
  (20, 1, .aload_n 0, [], 0),
  (21, 3, .getfield 38, [1, 6, 6, 0, 58, 440], 0),
  (24, 1, .aload_n 0, [], 0),
  (25, 3, .getfield 295, [0, 6, 9, 0, 0, 443], 0),
  (28, 3, .ifCond .ne 10, [19], 0),
  (31, 1, .aload_n 0, [], 0),
  (32, 3, .getfield 42, [1, 6, 7, 0, 62, 441], 0),
  (35, 3, .goto 7, [21], 0),
  (38, 1, .aload_n 0, [], 0),
  (39, 3, .getfield 45, [1, 6, 8, 0, 66, 442], 0),
  (42, 3, .invokevirtual 298, [1, 2, 0, 0, 824], 0),
  (45, 1, .aload_n 0, [], 0),
  (46, 1, .aload_n 0, [], 0),
  (47, 3, .getfield 28, [1, 6, 4, 1, 32, 438], 0),
  (50, 2, .bipush (-4), [], (-4)),
  (52, 3, .invokevirtual 216, [82, 3, 0, 6, 657], 0),
  (55, 1, .aload_n 0, [], 0),
  (56, 3, .getfield 295, [0, 6, 9, 0, 0, 443], 0),
  (59, 1, .ireturn, [0], 0)]
def cC_count : List am_W := [(0, 1, .iload_n 1, [], 0),
  (1, 51, .tableswitch 117 0 8 #[51, 59, 67, 75, 83, 91, 99, 104, 109], [36, 0, 2, 1, 6, 2, 10, 3, 14, 4, 18, 5, 22, 6, 26, 7, 29, 8, 32], 0),
  (52, 1, .aload_n 0, [], 0),
  (53, 3, .getfield 16, [2, 6, 2, 2, 0, 436], 0),
  (56, 3, .getfield 101, [0, 2, 14, 0, 0, 127], 0),
  (59, 1, .ireturn, [0], 0),
  (60, 1, .aload_n 0, [], 0),
  (61, 3, .getfield 16, [2, 6, 2, 2, 0, 436], 0),
  (64, 3, .getfield 283, [0, 2, 15, 0, 0, 131], 0),
  (67, 1, .ireturn, [0], 0),
  (68, 1, .aload_n 0, [], 0),
  (69, 3, .getfield 16, [2, 6, 2, 2, 0, 436], 0),
  (72, 3, .getfield 98, [0, 2, 16, 0, 0, 134], 0),
  (75, 1, .ireturn, [0], 0),
  (76, 1, .aload_n 0, [], 0),
  (77, 3, .getfield 16, [2, 6, 2, 2, 0, 436], 0),
  (80, 3, .getfield 302, [0, 2, 17, 0, 0, 137], 0),
  (83, 1, .ireturn, [0], 0),
  (84, 1, .aload_n 0, [], 0),
  (85, 3, .getfield 38, [1, 6, 6, 0, 58, 440], 0),
  (88, 3, .getfield 213, [0, 0, 3, 0, 0, 257], 0),
  (91, 1, .ireturn, [0], 0),
  (92, 1, .aload_n 0, [], 0),
  (93, 3, .getfield 51, [1, 6, 10, 3, 70, 444], 0),
  (96, 3, .getfield 273, [0, 3, 3, 0, 0, 277], 0),
  (99, 1, .ireturn, [0], 0),
  (100, 1, .aload_n 0, [], 0),
  (101, 3, .getfield 295, [0, 6, 9, 0, 0, 443], 0),
  (104, 1, .ireturn, [0], 0),
  (105, 1, .aload_n 0, [], 0),
  (106, 3, .getfield 94, [0, 6, 1, 0, 0, 435], 0),
  (109, 1, .ireturn, [0], 0),
  (110, 1, .aload_n 0, [], 0),
  (111, 3, .getfield 16, [2, 6, 2, 2, 0, 436], 0),
  (114, 3, .getfield 305, [0, 2, 18, 0, 0, 140], 0),
  (117, 1, .ireturn, [0], 0),
  (118, 1, .iconst (-1), [], (-1)),
  (119, 1, .ireturn, [0], 0)]
def cC_moveIn : List am_W := [(0, 1, .aload_n 0, [], 0),
  (1, 3, .getfield 16, [2, 6, 2, 2, 0, 436], 0),
  (4, 1, .astore_n 1, [], 0),
  (5, 1, .aload_n 0, [], 0),
  (6, 1, .aload_n 0, [], 0),
  (7, 3, .getfield 20, [2, 6, 3, 2, 0, 437], 0),
  (10, 3, .putfield 16, [2, 6, 2, 2, 0, 436], 0),
  (13, 1, .aload_n 0, [], 0),
  (14, 1, .aload_n 1, [], 0),
  (15, 3, .putfield 20, [2, 6, 3, 2, 0, 437], 0),
  (18, 1, .aload_n 0, [], 0),
  (19, 3, .getfield 38, [1, 6, 6, 0, 58, 440], 0),
  (22, 1, .iconst 0, [], 0),
  (23, 3, .putfield 213, [0, 0, 3, 0, 0, 257], 0),
  (26, 1, .aload_n 0, [], 0),
  (27, 3, .getfield 51, [1, 6, 10, 3, 70, 444], 0),
  (30, 1, .iconst 0, [], 0),
  (31, 3, .putfield 273, [0, 3, 3, 0, 0, 277], 0),
  (34, 1, .aload_n 0, [], 0),
  (35, 1, .iconst 0, [], 0),
  (36, 3, .putfield 295, [0, 6, 9, 0, 0, 443], 0),
  (39, 1, .aload_n 0, [], 0),
  (40, 3, .getfield 28, [1, 6, 4, 1, 32, 438], 0),
  (43, 1, .aload_n 0, [], 0),
  (44, 3, .getfield 16, [2, 6, 2, 2, 0, 436], 0),
  (47, 2, .bipush (-4), [], (-4)),
  (49, 3, .invokevirtual 308, [2, 3, 0, 1, 426], 0),
  (52, 1, .return_, [], 0)]
def cC_doAgain : List am_W := [(0, 1, .aload_n 1, [], 0),
  (1, 1, .aload_n 0, [], 0),
  (2, 3, .getfield 16, [2, 6, 2, 2, 0, 436], 0),
  (5, 1, .iload_n 2, [], 0),
  (6, 3, .invokevirtual 308, [2, 3, 0, 1, 426], 0),
  (9, 1, .iconst 0, [], 0),
  (10, 1, .istore_n 3, [], 0),
  (11, 0, .nop, [8], 0),
  (11, 1, .iload_n 3, [], 0),
  (12, 1, .aload_n 0, [], 0),
  (13, 3, .getfield 38, [1, 6, 6, 0, 58, 440], 0),
  (16, 3, .getfield 213, [0, 0, 3, 0, 0, 257], 0),
  (19, 3, .if_icmp .ge 40, [32], 0),
  (22, 1, .aload_n 1, [], 0),
  (23, 1, .aload_n 0, [], 0),
  (24, 3, .getfield 38, [1, 6, 6, 0, 58, 440], 0),
  (27, 3, .getfield 311, [1, 0, 0, 140, 1, 251], 0),
  (30, 1, .iload_n 3, [], 0),
  (31, 1, .iaload, [], 0),
  (32, 1, .aload_n 0, [], 0),
  (33, 3, .getfield 38, [1, 6, 6, 0, 58, 440], 0),
  (36, 3, .getfield 312, [1, 0, 1, 140, 2, 253], 0),
  (39, 1, .iload_n 3, [], 0),
  (40, 1, .iaload, [], 0),
  (41, 1, .aload_n 0, [], 0),
  (42, 3, .getfield 38, [1, 6, 6, 0, 58, 440], 0),
  (45, 3, .getfield 315, [1, 0, 2, 140, 3, 255], 0),
  (48, 1, .iload_n 3, [], 0),
  (49, 1, .iaload, [], 0),
  (50, 3, .invokevirtual 318, [3, 4, 0, 1, 583], 0),
  (53, 3, .iinc 3 1, [], 1),
  (56, 3, .goto (-45), [7], 0),
  (59, 1, .return_, [], 0)]
def cC_act : List am_W := [(0, 1, .aload_n 0, [], 0),
  (1, 3, .getfield 38, [1, 6, 6, 0, 58, 440], 0),
  (4, 1, .iload_n 1, [], 0),
  (5, 1, .iload_n 2, [], 0),
  (6, 1, .iload_n 3, [], 0),
  (7, 3, .invokevirtual 322, [0, 4, 1, 0, 579], 0),
  (10, 3, .ifCond .ne 5, [9], 0),
  (13, 1, .iconst 0, [], 0),
  (14, 1, .ireturn, [1], 0),
  (15, 1, .aload_n 0, [], 0),
  (16, 3, .getfield 28, [1, 6, 4, 1, 32, 438], 0),
  (19, 1, .iload_n 1, [], 0),
  (20, 1, .iload_n 2, [], 0),
  (21, 1, .iload_n 3, [], 0),
  (22, 3, .invokevirtual 318, [3, 4, 0, 1, 583], 0),
  (25, 1, .iconst 1, [], 1),
  (26, 1, .ireturn, [1], 0)]
def cC_nextOwnHour : List am_W := [(0, 1, .aload_n 0, [], 0),
  (1, 3, .getfield 16, [2, 6, 2, 2, 0, 436], 0),
  (4, 3, .getfield 118, [1, 2, 3, 106, 4, 99], 0),
  (7, 1, .aload_n 0, [], 0),
  (8, 3, .getfield 28, [1, 6, 4, 1, 32, 438], 0),
  (11, 3, .getfield 149, [1, 1, 2, 104, 1, 191], 0),
  (14, 1, .iload_n 1, [], 0),
  (15, 1, .iaload, [], 0),
  (16, 1, .iaload, [], 0),
  (17, 1, .istore_n 3, [], 0),
  (18, 1, .aload_n 0, [], 0),
  (19, 3, .getfield 28, [1, 6, 4, 1, 32, 438], 0),
  (22, 3, .getfield 152, [1, 1, 3, 104, 2, 193], 0),
  (25, 1, .iload_n 1, [], 0),
  (26, 1, .iaload, [], 0),
  (27, 1, .aload_n 0, [], 0),
  (28, 3, .getfield 28, [1, 6, 4, 1, 32, 438], 0),
  (31, 3, .getfield 152, [1, 1, 3, 104, 2, 193], 0),
  (34, 1, .iload_n 1, [], 0),
  (35, 1, .iaload, [], 0),
  (36, 1, .iload_n 2, [], 0),
  (37, 1, .aload_n 0, [], 0),
  (38, 3, .getfield 28, [1, 6, 4, 1, 32, 438], 0),
  (41, 3, .getfield 159, [1, 1, 4, 104, 3, 195], 0),
  (44, 1, .iload_n 1, [], 0),
  (45, 1, .iaload, [], 0),
  (46, 1, .isub, [], 0),
  (47, 1, .iload_n 3, [], 0),
  (48, 1, .imul, [], 0),
  (49, 1, .iadd, [], 0),
  (50, 1, .iload_n 3, [], 0),
  (51, 3, .invokestatic 260, [85, 3, 1, 0, 752], 0),
  (54, 1, .ireturn, [0], 0)]
def cC_nextTick : List am_W := [(0, 2, .bipush 24, [], 24),
  (2, 1, .iload_n 2, [], 0),
  (3, 1, .imul, [], 0),
  (4, 1, .istore_n 3, [], 0),
  (5, 1, .iload_n 3, [], 0),
  (6, 1, .iconst 1, [], 1),
  (7, 3, .if_icmp .ge 7, [9], 0),
  (10, 1, .iload_n 0, [], 0),
  (11, 3, .goto 12, [16], 0),
  (14, 1, .iload_n 0, [], 0),
  (15, 1, .iload_n 1, [], 0),
  (16, 1, .iload_n 0, [], 0),
  (17, 1, .isub, [], 0),
  (18, 1, .iload_n 3, [], 0),
  (19, 3, .invokestatic 128, [165, 2, 1, 0, 509], 0),
  (22, 1, .iadd, [], 0),
  (23, 1, .ireturn, [0], 0)]
def cC_drawOf : List am_W := [(0, 3, .ldc2_w 323, [814], 7919),
  (3, 1, .iload_n 0, [], 0),
  (4, 1, .i2l, [], 0),
  (5, 1, .lmul, [], 0),
  (6, 3, .ldc2_w 325, [815], 6151),
  (9, 1, .iload_n 1, [], 0),
  (10, 1, .i2l, [], 0),
  (11, 1, .lmul, [], 0),
  (12, 1, .ladd, [], 0),
  (13, 1, .lconst 1, [], 1),
  (14, 1, .ladd, [], 0),
  (15, 1, .lstore_n 2, [], 0),
  (16, 1, .lload_n 2, [], 0),
  (17, 1, .lload_n 2, [], 0),
  (18, 1, .lmul, [], 0),
  (19, 3, .ldc2_w 327, [816], 65521),
  (22, 1, .lrem, [], 0),
  (23, 1, .l2i, [], 0),
  (24, 1, .ireturn, [0], 0)]
def cC_commonDivisor : List am_W := [(0, 1, .iload_n 0, [], 0),
  (1, 1, .istore_n 2, [], 0),
  (2, 1, .iload_n 1, [], 0),
  (3, 1, .istore_n 3, [], 0),
  (4, 1, .iconst 0, [], 0),
  (5, 2, .istore 4, [], 0),
  (7, 0, .nop, [7], 0),
  (7, 2, .iload 4, [], 0),
  (9, 2, .bipush 64, [], 64),
  (11, 3, .if_icmp .ge 23, [22], 0),
  (14, 1, .iload_n 3, [], 0),
  (15, 3, .ifCond .eq 19, [22], 0),
  (18, 1, .iload_n 2, [], 0),
  (19, 1, .iload_n 3, [], 0),
  (20, 1, .irem, [], 0),
  (21, 2, .istore 5, [], 0),
  (23, 1, .iload_n 3, [], 0),
  (24, 1, .istore_n 2, [], 0),
  (25, 2, .iload 5, [], 0),
  (27, 1, .istore_n 3, [], 0),
  (28, 3, .iinc 4 1, [], 1),
  (31, 3, .goto (-24), [6], 0),
  (34, 1, .iload_n 2, [], 0),
  (35, 1, .iconst 1, [], 1),
  (36, 3, .invokestatic 329, [166, 2, 1, 0, 515], 0),
  (39, 1, .ireturn, [0], 0)]
def cC_told : List am_W := [(0, 1, .iload_n 0, [], 0),
  (1, 3, .ldc_w 332, [537], 100000),
  (4, 1, .iadd, [], 0),
  (5, 1, .ireturn, [0], 0)]
def cC_isOneOf : List am_W := [(0, 1, .iload_n 0, [], 0),
  (1, 3, .ifCond .lt 12, [7], 0),
  (4, 1, .iload_n 0, [], 0),
  (5, 1, .iload_n 1, [], 0),
  (6, 3, .if_icmp .ge 7, [7], 0),
  (9, 1, .iconst 1, [], 1),
  (10, 3, .goto 4, [8], 0),
  (13, 1, .iconst 0, [], 0),
  (14, 1, .ireturn, [1], 0)]
def cC_isTickToTell : List am_W := [(0, 1, .iload_n 0, [], 0),
  (1, 3, .sipush (-9999), [], (-9999)),
  (4, 3, .if_icmp .lt 14, [8], 0),
  (7, 1, .iload_n 0, [], 0),
  (8, 3, .sipush 9999, [], 9999),
  (11, 3, .if_icmp .gt 7, [8], 0),
  (14, 1, .iconst 1, [], 1),
  (15, 3, .goto 4, [9], 0),
  (18, 1, .iconst 0, [], 0),
  (19, 1, .ireturn, [1], 0)]
def cC_isRoom : List am_W := [(0, 1, .iload_n 1, [], 0),
  (1, 1, .aload_n 0, [], 0),
  (2, 3, .getfield 16, [2, 6, 2, 2, 0, 436], 0),
  (5, 3, .getfield 101, [0, 2, 14, 0, 0, 127], 0),
  (8, 3, .invokestatic 124, [89, 2, 1, 0, 499], 0),
  (11, 1, .ireturn, [1], 0)]
def cC_isDoor : List am_W := [(0, 1, .iload_n 1, [], 0),
  (1, 1, .aload_n 0, [], 0),
  (2, 3, .getfield 16, [2, 6, 2, 2, 0, 436], 0),
  (5, 3, .getfield 283, [0, 2, 15, 0, 0, 131], 0),
  (8, 3, .invokestatic 124, [89, 2, 1, 0, 499], 0),
  (11, 1, .ireturn, [1], 0)]
def cC_isPerson : List am_W := [(0, 1, .iload_n 1, [], 0),
  (1, 1, .aload_n 0, [], 0),
  (2, 3, .getfield 16, [2, 6, 2, 2, 0, 436], 0),
  (5, 3, .getfield 98, [0, 2, 16, 0, 0, 134], 0),
  (8, 3, .invokestatic 124, [89, 2, 1, 0, 499], 0),
  (11, 1, .ireturn, [1], 0)]
def cC_isThing : List am_W := [(0, 1, .iload_n 1, [], 0),
  (1, 1, .aload_n 0, [], 0),
  (2, 3, .getfield 16, [2, 6, 2, 2, 0, 436], 0),
  (5, 3, .getfield 302, [0, 2, 17, 0, 0, 137], 0),
  (8, 3, .invokestatic 124, [89, 2, 1, 0, 499], 0),
  (11, 1, .ireturn, [1], 0)]
def cM_in : List am_W := [(0, 1, .lload_n 0, [], 0),
  (1, 1, .lload_n 2, [], 0),
  (2, 1, .lcmp, [], 0),
  (3, 3, .ifCond .lt 14, [10], 0),
  (6, 1, .lload_n 0, [], 0),
  (7, 2, .lload 4, [], 0),
  (9, 1, .lcmp, [], 0),
  (10, 3, .ifCond .gt 7, [10], 0),
  (13, 1, .iconst 1, [], 1),
  (14, 3, .goto 4, [11], 0),
  (17, 1, .iconst 0, [], 0),
  (18, 1, .ireturn, [1], 0)]
def cM_has : List am_W := [(0, 1, .iload_n 0, [], 0),
  (1, 1, .iload_n 1, [], 0),
  (2, 1, .ishr, [], 0),
  (3, 1, .iconst 1, [], 1),
  (4, 1, .iand, [], 0),
  (5, 1, .iconst 1, [], 1),
  (6, 3, .if_icmp .ne 7, [9], 0),
  (9, 1, .iconst 1, [], 1),
  (10, 3, .goto 4, [10], 0),
  (13, 1, .iconst 0, [], 0),
  (14, 1, .ireturn, [1], 0)]
def cM_noHouse : List am_W := [(0, 1, .aload_n 0, [], 0),
  (1, 3, .getfield 13, [1, 7, 2, 102, 2, 905], 0),
  (4, 1, .iload_n 1, [], 0),
  (5, 1, .iconst 0, [], 0),
  (6, 1, .iastore, [], 0),
  (7, 1, .aload_n 0, [], 0),
  (8, 3, .getfield 25, [1, 7, 6, 102, 6, 909], 0),
  (11, 1, .iload_n 1, [], 0),
  (12, 1, .iconst 0, [], 0),
  (13, 1, .iastore, [], 0),
  (14, 1, .aload_n 0, [], 0),
  (15, 3, .getfield 37, [1, 7, 10, 102, 10, 913], 0),
  (18, 1, .iload_n 1, [], 0),
  (19, 1, .iconst 0, [], 0),
  (20, 1, .iastore, [], 0),
  (21, 1, .aload_n 0, [], 0),
  (22, 3, .getfield 46, [1, 7, 13, 102, 13, 916], 0),
  (25, 1, .iload_n 1, [], 0),
  (26, 1, .iconst 0, [], 0),
  (27, 1, .iastore, [], 0),
  (28, 1, .aload_n 0, [], 0),
  (29, 3, .getfield 58, [1, 7, 17, 102, 17, 920], 0),
  (32, 1, .iload_n 1, [], 0),
  (33, 1, .iconst 1, [], 1),
  (34, 1, .iastore, [], 0),
  (35, 1, .return_, [], 0)]
def cM_addRoom : List am_W := [(0, 1, .aload_n 0, [], 0),
  (1, 3, .getfield 16, [1, 7, 3, 112, 3, 906], 0),
  (4, 2, .bipush 6, [], 6),
  (6, 1, .iload_n 1, [], 0),
  (7, 1, .imul, [], 0),
  (8, 1, .aload_n 0, [], 0),
  (9, 3, .getfield 13, [1, 7, 2, 102, 2, 905], 0),
  (12, 1, .iload_n 1, [], 0),
  (13, 1, .iaload, [], 0),
  (14, 1, .iadd, [], 0),
  (15, 1, .iload_n 2, [], 0),
  (16, 1, .iastore, [], 0),
  (17, 1, .aload_n 0, [], 0),
  (18, 3, .getfield 19, [1, 7, 4, 112, 4, 907], 0),
  (21, 2, .bipush 6, [], 6),
  (23, 1, .iload_n 1, [], 0),
  (24, 1, .imul, [], 0),
  (25, 1, .aload_n 0, [], 0),
  (26, 3, .getfield 13, [1, 7, 2, 102, 2, 905], 0),
  (29, 1, .iload_n 1, [], 0),
  (30, 1, .iaload, [], 0),
  (31, 1, .iadd, [], 0),
  (32, 1, .iload_n 3, [], 0),
  (33, 1, .iastore, [], 0),
  (34, 1, .aload_n 0, [], 0),
  (35, 3, .getfield 22, [1, 7, 5, 112, 5, 908], 0),
  (38, 2, .bipush 6, [], 6),
  (40, 1, .iload_n 1, [], 0),
  (41, 1, .imul, [], 0),
  (42, 1, .aload_n 0, [], 0),
  (43, 3, .getfield 13, [1, 7, 2, 102, 2, 905], 0),
  (46, 1, .iload_n 1, [], 0),
  (47, 1, .iaload, [], 0),
  (48, 1, .iadd, [], 0),
  (49, 2, .iload 4, [], 0),
  (51, 1, .iastore, [], 0),
  (52, 1, .aload_n 0, [], 0),
  (53, 3, .getfield 13, [1, 7, 2, 102, 2, 905], 0),
  (56, 1, .iload_n 1, [], 0),
  (57, 1, .dup2, [], 0),
  (58, 1, .iaload, [], 0),
  (59, 1, .iconst 1, [], 1),
  (60, 1, .iadd, [], 0),
  (61, 1, .iastore, [], 0),
  (62, 1, .return_, [], 0)]
def cM_addDoor : List am_W := [(0, 1, .aload_n 0, [], 0),
  (1, 3, .getfield 28, [1, 7, 7, 116, 7, 910], 0),
  (4, 2, .bipush 8, [], 8),
  (6, 1, .iload_n 1, [], 0),
  (7, 1, .imul, [], 0),
  (8, 1, .aload_n 0, [], 0),
  (9, 3, .getfield 25, [1, 7, 6, 102, 6, 909], 0),
  (12, 1, .iload_n 1, [], 0),
  (13, 1, .iaload, [], 0),
  (14, 1, .iadd, [], 0),
  (15, 1, .iload_n 2, [], 0),
  (16, 1, .iastore, [], 0),
  (17, 1, .aload_n 0, [], 0),
  (18, 3, .getfield 31, [1, 7, 8, 116, 8, 911], 0),
  (21, 2, .bipush 8, [], 8),
  (23, 1, .iload_n 1, [], 0),
  (24, 1, .imul, [], 0),
  (25, 1, .aload_n 0, [], 0),
  (26, 3, .getfield 25, [1, 7, 6, 102, 6, 909], 0),
  (29, 1, .iload_n 1, [], 0),
  (30, 1, .iaload, [], 0),
  (31, 1, .iadd, [], 0),
  (32, 1, .iload_n 3, [], 0),
  (33, 1, .iastore, [], 0),
  (34, 1, .aload_n 0, [], 0),
  (35, 3, .getfield 34, [1, 7, 9, 116, 9, 912], 0),
  (38, 2, .bipush 8, [], 8),
  (40, 1, .iload_n 1, [], 0),
  (41, 1, .imul, [], 0),
  (42, 1, .aload_n 0, [], 0),
  (43, 3, .getfield 25, [1, 7, 6, 102, 6, 909], 0),
  (46, 1, .iload_n 1, [], 0),
  (47, 1, .iaload, [], 0),
  (48, 1, .iadd, [], 0),
  (49, 2, .iload 4, [], 0),
  (51, 3, .ifCond .ne 8, [38], 0),
  (54, 2, .iload 5, [], 0),
  (56, 3, .goto 6, [40], 0),
  (59, 2, .iload 5, [], 0),
  (61, 1, .ineg, [], 0),
  (62, 1, .iastore, [], 0),
  (63, 1, .aload_n 0, [], 0),
  (64, 3, .getfield 25, [1, 7, 6, 102, 6, 909], 0),
  (67, 1, .iload_n 1, [], 0),
  (68, 1, .dup2, [], 0),
  (69, 1, .iaload, [], 0),
  (70, 1, .iconst 1, [], 1),
  (71, 1, .iadd, [], 0),
  (72, 1, .iastore, [], 0),
  (73, 1, .return_, [], 0)]
def cM_write : List am_W := [(0, 1, .iload_n 1, [], 0),
  (1, 1, .i2l, [], 0),
  (2, 3, .ldc2_w 148, [1043], 32),
  (5, 3, .ldc2_w 150, [1044], 126),
  (8, 3, .invokestatic 152, [95, 3, 1, 0, 1045], 0),
  (11, 3, .ifCond .ne 5, [8], 0),
  (14, 1, .iconst (-1), [], (-1)),
  (15, 1, .ireturn, [0], 0),
  (16, 1, .aload_n 0, [], 0),
  (17, 3, .getfield 156, [0, 7, 0, 0, 0, 903], 0),
  (20, 3, .sipush 200, [], 200),
  (23, 3, .if_icmp .ne 6, [14], 0),
  (26, 2, .bipush (-3), [], (-3)),
  (28, 1, .ireturn, [0], 0),
  (29, 1, .aload_n 0, [], 0),
  (30, 3, .getfield 7, [1, 7, 1, 300, 1, 904], 0),
  (33, 1, .aload_n 0, [], 0),
  (34, 3, .getfield 156, [0, 7, 0, 0, 0, 903], 0),
  (37, 1, .iload_n 1, [], 0),
  (38, 1, .iastore, [], 0),
  (39, 1, .aload_n 0, [], 0),
  (40, 1, .dup, [], 0),
  (41, 3, .getfield 156, [0, 7, 0, 0, 0, 903], 0),
  (44, 1, .iconst 1, [], 1),
  (45, 1, .iadd, [], 0),
  (46, 3, .putfield 156, [0, 7, 0, 0, 0, 903], 0),
  (49, 1, .aload_n 0, [], 0),
  (50, 3, .getfield 156, [0, 7, 0, 0, 0, 903], 0),
  (53, 1, .ireturn, [0], 0)]
def cM_wipe : List am_W := [(0, 1, .aload_n 0, [], 0),
  (1, 3, .getfield 156, [0, 7, 0, 0, 0, 903], 0),
  (4, 1, .istore_n 1, [], 0),
  (5, 1, .aload_n 0, [], 0),
  (6, 1, .iconst 0, [], 0),
  (7, 3, .putfield 156, [0, 7, 0, 0, 0, 903], 0),
  (10, 1, .iload_n 1, [], 0),
  (11, 1, .ireturn, [0], 0)]
def cM_letterAt : List am_W := [(0, 1, .iload_n 1, [], 0),
  (1, 1, .aload_n 0, [], 0),
  (2, 3, .getfield 156, [0, 7, 0, 0, 0, 903], 0),
  (5, 3, .if_icmp .ge 12, [9], 0),
  (8, 1, .aload_n 0, [], 0),
  (9, 3, .getfield 7, [1, 7, 1, 300, 1, 904], 0),
  (12, 1, .iload_n 1, [], 0),
  (13, 1, .iaload, [], 0),
  (14, 3, .goto 4, [10], 0),
  (17, 1, .iconst 0, [], 0),
  (18, 1, .ireturn, [0], 0)]
def cM_figures : List am_W := [(0, 1, .iconst 0, [], 0),
  (1, 1, .istore_n 2, [], 0),
  (2, 0, .nop, [3], 0),
  (2, 1, .iload_n 2, [], 0),
  (3, 1, .iload_n 1, [], 0),
  (4, 3, .if_icmp .ge 132, [76], 0),
  (7, 1, .iconst 0, [], 0),
  (8, 1, .istore_n 3, [], 0),
  (9, 1, .iconst 0, [], 0),
  (10, 2, .istore 4, [], 0),
  (12, 0, .nop, [11], 0),
  (12, 1, .aload_n 0, [], 0),
  (13, 1, .aload_n 0, [], 0),
  (14, 3, .getfield 160, [0, 7, 27, 0, 0, 930], 0),
  (17, 3, .invokevirtual 163, [102, 2, 1, 7, 1064], 0),
  (20, 1, .i2l, [], 0),
  (21, 3, .ldc2_w 167, [1072], 48),
  (24, 3, .ldc2_w 169, [1073], 57),
  (27, 3, .invokestatic 152, [95, 3, 1, 0, 1045], 0),
  (30, 3, .ifCond .eq 43, [42], 0),
  (33, 1, .iload_n 3, [], 0),
  (34, 1, .iconst 3, [], 3),
  (35, 3, .if_icmp .ge 38, [42], 0),
  (38, 2, .bipush 10, [], 10),
  (40, 2, .iload 4, [], 0),
  (42, 1, .imul, [], 0),
  (43, 1, .aload_n 0, [], 0),
  (44, 1, .aload_n 0, [], 0),
  (45, 3, .getfield 160, [0, 7, 27, 0, 0, 930], 0),
  (48, 3, .invokevirtual 163, [102, 2, 1, 7, 1064], 0),
  (51, 1, .iadd, [], 0),
  (52, 2, .bipush 48, [], 48),
  (54, 1, .isub, [], 0),
  (55, 2, .istore 4, [], 0),
  (57, 3, .iinc 3 1, [], 1),
  (60, 1, .aload_n 0, [], 0),
  (61, 1, .dup, [], 0),
  (62, 3, .getfield 160, [0, 7, 27, 0, 0, 930], 0),
  (65, 1, .iconst 1, [], 1),
  (66, 1, .iadd, [], 0),
  (67, 3, .putfield 160, [0, 7, 27, 0, 0, 930], 0),
  (70, 3, .goto (-58), [10], 0),
  (73, 1, .iload_n 3, [], 0),
  (74, 1, .i2l, [], 0),
  (75, 1, .lconst 1, [], 1),
  (76, 3, .ldc2_w 171, [1074], 2),
  (79, 3, .invokestatic 152, [95, 3, 1, 0, 1045], 0),
  (82, 3, .ifCond .eq 28, [61], 0),
  (85, 1, .aload_n 0, [], 0),
  (86, 1, .aload_n 0, [], 0),
  (87, 3, .getfield 160, [0, 7, 27, 0, 0, 930], 0),
  (90, 3, .invokevirtual 163, [102, 2, 1, 7, 1064], 0),
  (93, 1, .iload_n 2, [], 0),
  (94, 1, .iload_n 1, [], 0),
  (95, 1, .iconst 1, [], 1),
  (96, 1, .isub, [], 0),
  (97, 3, .if_icmp .ge 8, [59], 0),
  (100, 2, .bipush 44, [], 44),
  (102, 3, .goto 5, [60], 0),
  (105, 2, .bipush 59, [], 59),
  (107, 3, .if_icmp .eq 5, [63], 0),
  (110, 1, .iconst 0, [], 0),
  (111, 1, .ireturn, [1], 0),
  (112, 1, .aload_n 0, [], 0),
  (113, 3, .getfield 82, [1, 7, 28, 104, 25, 931], 0),
  (116, 1, .iload_n 2, [], 0),
  (117, 2, .iload 4, [], 0),
  (119, 1, .iastore, [], 0),
  (120, 1, .aload_n 0, [], 0),
  (121, 1, .dup, [], 0),
  (122, 3, .getfield 160, [0, 7, 27, 0, 0, 930], 0),
  (125, 1, .iconst 1, [], 1),
  (126, 1, .iadd, [], 0),
  (127, 3, .putfield 160, [0, 7, 27, 0, 0, 930], 0),
  (130, 3, .iinc 2 1, [], 1),
  (133, 3, .goto (-131), [2], 0),
  (136, 1, .iconst 1, [], 1),
  (137, 1, .ireturn, [1], 0)]
def cM_item : List am_W := [(0, 1, .aload_n 0, [], 0),
  (1, 1, .aload_n 0, [], 0),
  (2, 3, .getfield 160, [0, 7, 27, 0, 0, 930], 0),
  (5, 3, .invokevirtual 163, [102, 2, 1, 7, 1064], 0),
  (8, 1, .istore_n 1, [], 0),
  (9, 1, .aload_n 0, [], 0),
  (10, 1, .dup, [], 0),
  (11, 3, .getfield 160, [0, 7, 27, 0, 0, 930], 0),
  (14, 1, .iconst 1, [], 1),
  (15, 1, .iadd, [], 0),
  (16, 3, .putfield 160, [0, 7, 27, 0, 0, 930], 0),
  (19, 1, .iload_n 1, [], 0),
  (20, 52, .lookupswitch 504 #[(100, 143), (112, 261), (114, 52), (116, 346), (119, 470)], [299, 100, 66, 112, 138, 114, 13, 116, 195, 119, 277], 0),
  (72, 1, .aload_n 0, [], 0),
  (73, 1, .iconst 3, [], 3),
  (74, 3, .invokevirtual 173, [103, 2, 1, 7, 1068], 0),
  (77, 3, .ifCond .eq 59, [47], 0),
  (80, 1, .aload_n 0, [], 0),
  (81, 3, .getfield 13, [1, 7, 2, 102, 2, 905], 0),
  (84, 1, .iconst 1, [], 1),
  (85, 1, .iaload, [], 0),
  (86, 2, .bipush 6, [], 6),
  (88, 3, .if_icmp .eq 48, [47], 0),
  (91, 1, .aload_n 0, [], 0),
  (92, 3, .getfield 82, [1, 7, 28, 104, 25, 931], 0),
  (95, 1, .iconst 0, [], 0),
  (96, 1, .iaload, [], 0),
  (97, 1, .i2l, [], 0),
  (98, 1, .lconst 1, [], 1),
  (99, 3, .ldc2_w 177, [1075], 4),
  (102, 3, .invokestatic 152, [95, 3, 1, 0, 1045], 0),
  (105, 3, .ifCond .eq 31, [47], 0),
  (108, 1, .aload_n 0, [], 0),
  (109, 3, .getfield 82, [1, 7, 28, 104, 25, 931], 0),
  (112, 1, .iconst 1, [], 1),
  (113, 1, .iaload, [], 0),
  (114, 1, .i2l, [], 0),
  (115, 1, .lconst 1, [], 1),
  (116, 3, .ldc2_w 177, [1075], 4),
  (119, 3, .invokestatic 152, [95, 3, 1, 0, 1045], 0),
  (122, 3, .ifCond .eq 14, [47], 0),
  (125, 1, .aload_n 0, [], 0),
  (126, 3, .getfield 82, [1, 7, 28, 104, 25, 931], 0),
  (129, 1, .iconst 2, [], 2),
  (130, 1, .iaload, [], 0),
  (131, 2, .bipush 23, [], 23),
  (133, 3, .if_icmp .le 5, [49], 0),
  (136, 1, .iconst 0, [], 0),
  (137, 1, .ireturn, [1], 0),
  (138, 1, .aload_n 0, [], 0),
  (139, 1, .iconst 1, [], 1),
  (140, 1, .aload_n 0, [], 0),
  (141, 3, .getfield 82, [1, 7, 28, 104, 25, 931], 0),
  (144, 1, .iconst 0, [], 0),
  (145, 1, .iaload, [], 0),
  (146, 1, .aload_n 0, [], 0),
  (147, 3, .getfield 82, [1, 7, 28, 104, 25, 931], 0),
  (150, 1, .iconst 1, [], 1),
  (151, 1, .iaload, [], 0),
  (152, 1, .aload_n 0, [], 0),
  (153, 3, .getfield 82, [1, 7, 28, 104, 25, 931], 0),
  (156, 1, .iconst 2, [], 2),
  (157, 1, .iaload, [], 0),
  (158, 3, .invokevirtual 137, [98, 5, 0, 7, 847], 0),
  (161, 1, .iconst 1, [], 1),
  (162, 1, .ireturn, [1], 0),
  (163, 1, .aload_n 0, [], 0),
  (164, 1, .iconst 4, [], 4),
  (165, 3, .invokevirtual 173, [103, 2, 1, 7, 1068], 0),
  (168, 3, .ifCond .eq 80, [115], 0),
  (171, 1, .aload_n 0, [], 0),
  (172, 3, .getfield 25, [1, 7, 6, 102, 6, 909], 0),
  (175, 1, .iconst 1, [], 1),
  (176, 1, .iaload, [], 0),
  (177, 2, .bipush 8, [], 8),
  (179, 3, .if_icmp .eq 69, [115], 0),
  (182, 1, .aload_n 0, [], 0),
  (183, 3, .getfield 82, [1, 7, 28, 104, 25, 931], 0),
  (186, 1, .iconst 0, [], 0),
  (187, 1, .iaload, [], 0),
  (188, 1, .aload_n 0, [], 0),
  (189, 3, .getfield 13, [1, 7, 2, 102, 2, 905], 0),
  (192, 1, .iconst 1, [], 1),
  (193, 1, .iaload, [], 0),
  (194, 3, .if_icmp .ge 54, [115], 0),
  (197, 1, .aload_n 0, [], 0),
  (198, 3, .getfield 82, [1, 7, 28, 104, 25, 931], 0),
  (201, 1, .iconst 1, [], 1),
  (202, 1, .iaload, [], 0),
  (203, 1, .aload_n 0, [], 0),
  (204, 3, .getfield 13, [1, 7, 2, 102, 2, 905], 0),
  (207, 1, .iconst 1, [], 1),
  (208, 1, .iaload, [], 0),
  (209, 3, .if_icmp .ge 39, [115], 0),
  (212, 1, .aload_n 0, [], 0),
  (213, 3, .getfield 82, [1, 7, 28, 104, 25, 931], 0),
  (216, 1, .iconst 0, [], 0),
  (217, 1, .iaload, [], 0),
  (218, 1, .aload_n 0, [], 0),
  (219, 3, .getfield 82, [1, 7, 28, 104, 25, 931], 0),
  (222, 1, .iconst 1, [], 1),
  (223, 1, .iaload, [], 0),
  (224, 3, .if_icmp .eq 24, [115], 0),
  (227, 1, .aload_n 0, [], 0),
  (228, 3, .getfield 82, [1, 7, 28, 104, 25, 931], 0),
  (231, 1, .iconst 2, [], 2),
  (232, 1, .iaload, [], 0),
  (233, 1, .iconst 1, [], 1),
  (234, 3, .if_icmp .gt 14, [115], 0),
  (237, 1, .aload_n 0, [], 0),
  (238, 3, .getfield 82, [1, 7, 28, 104, 25, 931], 0),
  (241, 1, .iconst 3, [], 3),
  (242, 1, .iaload, [], 0),
  (243, 2, .bipush 24, [], 24),
  (245, 3, .if_icmp .le 5, [117], 0),
  (248, 1, .iconst 0, [], 0),
  (249, 1, .ireturn, [1], 0),
  (250, 1, .aload_n 0, [], 0),
  (251, 1, .iconst 1, [], 1),
  (252, 1, .aload_n 0, [], 0),
  (253, 3, .getfield 82, [1, 7, 28, 104, 25, 931], 0),
  (256, 1, .iconst 0, [], 0),
  (257, 1, .iaload, [], 0),
  (258, 1, .aload_n 0, [], 0),
  (259, 3, .getfield 82, [1, 7, 28, 104, 25, 931], 0),
  (262, 1, .iconst 1, [], 1),
  (263, 1, .iaload, [], 0),
  (264, 1, .aload_n 0, [], 0),
  (265, 3, .getfield 82, [1, 7, 28, 104, 25, 931], 0),
  (268, 1, .iconst 2, [], 2),
  (269, 1, .iaload, [], 0),
  (270, 1, .aload_n 0, [], 0),
  (271, 3, .getfield 82, [1, 7, 28, 104, 25, 931], 0),
  (274, 1, .iconst 3, [], 3),
  (275, 1, .iaload, [], 0),
  (276, 3, .invokevirtual 141, [99, 6, 0, 7, 851], 0),
  (279, 1, .iconst 1, [], 1),
  (280, 1, .ireturn, [1], 0),
  (281, 1, .aload_n 0, [], 0),
  (282, 1, .iconst 2, [], 2),
  (283, 3, .invokevirtual 173, [103, 2, 1, 7, 1068], 0),
  (286, 3, .ifCond .eq 28, [157], 0),
  (289, 1, .aload_n 0, [], 0),
  (290, 3, .getfield 37, [1, 7, 10, 102, 10, 913], 0),
  (293, 1, .iconst 1, [], 1),
  (294, 1, .iaload, [], 0),
  (295, 1, .iconst 4, [], 4),
  (296, 3, .if_icmp .eq 18, [157], 0),
  (299, 1, .aload_n 0, [], 0),
  (300, 3, .getfield 82, [1, 7, 28, 104, 25, 931], 0),
  (303, 1, .iconst 0, [], 0),
  (304, 1, .iaload, [], 0),
  (305, 1, .aload_n 0, [], 0),
  (306, 3, .getfield 13, [1, 7, 2, 102, 2, 905], 0),
  (309, 1, .iconst 1, [], 1),
  (310, 1, .iaload, [], 0),
  (311, 3, .if_icmp .lt 5, [159], 0),
  (314, 1, .iconst 0, [], 0),
  (315, 1, .ireturn, [1], 0),
  (316, 1, .aload_n 0, [], 0),
  (317, 3, .getfield 40, [1, 7, 11, 108, 11, 914], 0),
  (320, 1, .iconst 4, [], 4),
  (321, 1, .aload_n 0, [], 0),
  (322, 3, .getfield 37, [1, 7, 10, 102, 10, 913], 0),
  (325, 1, .iconst 1, [], 1),
  (326, 1, .iaload, [], 0),
  (327, 1, .iadd, [], 0),
  (328, 1, .aload_n 0, [], 0),
  (329, 3, .getfield 82, [1, 7, 28, 104, 25, 931], 0),
  (332, 1, .iconst 0, [], 0),
  (333, 1, .iaload, [], 0),
  (334, 1, .iastore, [], 0),
  (335, 1, .aload_n 0, [], 0),
  (336, 3, .getfield 43, [1, 7, 12, 108, 12, 915], 0),
  (339, 1, .iconst 4, [], 4),
  (340, 1, .aload_n 0, [], 0),
  (341, 3, .getfield 37, [1, 7, 10, 102, 10, 913], 0),
  (344, 1, .iconst 1, [], 1),
  (345, 1, .iaload, [], 0),
  (346, 1, .iadd, [], 0),
  (347, 1, .aload_n 0, [], 0),
  (348, 3, .getfield 82, [1, 7, 28, 104, 25, 931], 0),
  (351, 1, .iconst 1, [], 1),
  (352, 1, .iaload, [], 0),
  (353, 1, .iastore, [], 0),
  (354, 1, .aload_n 0, [], 0),
  (355, 3, .getfield 37, [1, 7, 10, 102, 10, 913], 0),
  (358, 1, .iconst 1, [], 1),
  (359, 1, .dup2, [], 0),
  (360, 1, .iaload, [], 0),
  (361, 1, .iconst 1, [], 1),
  (362, 1, .iadd, [], 0),
  (363, 1, .iastore, [], 0),
  (364, 1, .iconst 1, [], 1),
  (365, 1, .ireturn, [1], 0),
  (366, 1, .aload_n 0, [], 0),
  (367, 1, .iconst 3, [], 3),
  (368, 3, .invokevirtual 173, [103, 2, 1, 7, 1068], 0),
  (371, 3, .ifCond .eq 48, [226], 0),
  (374, 1, .aload_n 0, [], 0),
  (375, 3, .getfield 46, [1, 7, 13, 102, 13, 916], 0),
  (378, 1, .iconst 1, [], 1),
  (379, 1, .iaload, [], 0),
  (380, 1, .iconst 5, [], 5),
  (381, 3, .if_icmp .eq 38, [226], 0),
  (384, 1, .aload_n 0, [], 0),
  (385, 3, .getfield 82, [1, 7, 28, 104, 25, 931], 0),
  (388, 1, .iconst 0, [], 0),
  (389, 1, .iaload, [], 0),
  (390, 1, .aload_n 0, [], 0),
  (391, 3, .getfield 13, [1, 7, 2, 102, 2, 905], 0),
  (394, 1, .iconst 1, [], 1),
  (395, 1, .iaload, [], 0),
  (396, 3, .if_icmp .ge 23, [226], 0),
  (399, 1, .aload_n 0, [], 0),
  (400, 3, .getfield 82, [1, 7, 28, 104, 25, 931], 0),
  (403, 1, .iconst 1, [], 1),
  (404, 1, .iaload, [], 0),
  (405, 1, .iconst 3, [], 3),
  (406, 3, .if_icmp .gt 13, [226], 0),
  (409, 1, .aload_n 0, [], 0),
  (410, 3, .getfield 82, [1, 7, 28, 104, 25, 931], 0),
  (413, 1, .iconst 2, [], 2),
  (414, 1, .iaload, [], 0),
  (415, 1, .iconst 1, [], 1),
  (416, 3, .if_icmp .ge 5, [228], 0),
  (419, 1, .iconst 0, [], 0),
  (420, 1, .ireturn, [1], 0),
  (421, 1, .aload_n 0, [], 0),
  (422, 3, .getfield 49, [1, 7, 14, 110, 14, 917], 0),
  (425, 1, .iconst 5, [], 5),
  (426, 1, .aload_n 0, [], 0),
  (427, 3, .getfield 46, [1, 7, 13, 102, 13, 916], 0),
  (430, 1, .iconst 1, [], 1),
  (431, 1, .iaload, [], 0),
  (432, 1, .iadd, [], 0),
  (433, 1, .aload_n 0, [], 0),
  (434, 3, .getfield 82, [1, 7, 28, 104, 25, 931], 0),
  (437, 1, .iconst 0, [], 0),
  (438, 1, .iaload, [], 0),
  (439, 1, .iastore, [], 0),
  (440, 1, .aload_n 0, [], 0),
  (441, 3, .getfield 52, [1, 7, 15, 110, 15, 918], 0),
  (444, 1, .iconst 5, [], 5),
  (445, 1, .aload_n 0, [], 0),
  (446, 3, .getfield 46, [1, 7, 13, 102, 13, 916], 0),
  (449, 1, .iconst 1, [], 1),
  (450, 1, .iaload, [], 0),
  (451, 1, .iadd, [], 0),
  (452, 1, .aload_n 0, [], 0),
  (453, 3, .getfield 82, [1, 7, 28, 104, 25, 931], 0),
  (456, 1, .iconst 1, [], 1),
  (457, 1, .iaload, [], 0),
  (458, 1, .iastore, [], 0),
  (459, 1, .aload_n 0, [], 0),
  (460, 3, .getfield 55, [1, 7, 16, 110, 16, 919], 0),
  (463, 1, .iconst 5, [], 5),
  (464, 1, .aload_n 0, [], 0),
  (465, 3, .getfield 46, [1, 7, 13, 102, 13, 916], 0),
  (468, 1, .iconst 1, [], 1),
  (469, 1, .iaload, [], 0),
  (470, 1, .iadd, [], 0),
  (471, 1, .aload_n 0, [], 0),
  (472, 3, .getfield 82, [1, 7, 28, 104, 25, 931], 0),
  (475, 1, .iconst 2, [], 2),
  (476, 1, .iaload, [], 0),
  (477, 1, .iastore, [], 0),
  (478, 1, .aload_n 0, [], 0),
  (479, 3, .getfield 46, [1, 7, 13, 102, 13, 916], 0),
  (482, 1, .iconst 1, [], 1),
  (483, 1, .dup2, [], 0),
  (484, 1, .iaload, [], 0),
  (485, 1, .iconst 1, [], 1),
  (486, 1, .iadd, [], 0),
  (487, 1, .iastore, [], 0),
  (488, 1, .iconst 1, [], 1),
  (489, 1, .ireturn, [1], 0),
  (490, 1, .aload_n 0, [], 0),
  (491, 1, .iconst 1, [], 1),
  (492, 3, .invokevirtual 173, [103, 2, 1, 7, 1068], 0),
  (495, 3, .ifCond .eq 13, [287], 0),
  (498, 1, .aload_n 0, [], 0),
  (499, 3, .getfield 82, [1, 7, 28, 104, 25, 931], 0),
  (502, 1, .iconst 0, [], 0),
  (503, 1, .iaload, [], 0),
  (504, 1, .iconst 3, [], 3),
  (505, 3, .if_icmp .le 5, [289], 0),
  (508, 1, .iconst 0, [], 0),
  (509, 1, .ireturn, [1], 0),
  (510, 1, .aload_n 0, [], 0),
  (511, 3, .getfield 58, [1, 7, 17, 102, 17, 920], 0),
  (514, 1, .iconst 1, [], 1),
  (515, 1, .aload_n 0, [], 0),
  (516, 3, .getfield 82, [1, 7, 28, 104, 25, 931], 0),
  (519, 1, .iconst 0, [], 0),
  (520, 1, .iaload, [], 0),
  (521, 1, .iastore, [], 0),
  (522, 1, .iconst 1, [], 1),
  (523, 1, .ireturn, [1], 0),
  (524, 1, .iconst 0, [], 0),
  (525, 1, .ireturn, [1], 0)]
def cM_readAll : List am_W := [(0, 1, .aload_n 0, [], 0),
  (1, 1, .iconst 1, [], 1),
  (2, 3, .invokevirtual 133, [97, 2, 0, 7, 843], 0),
  (5, 1, .aload_n 0, [], 0),
  (6, 1, .iconst 0, [], 0),
  (7, 3, .putfield 160, [0, 7, 27, 0, 0, 930], 0),
  (10, 0, .nop, [7], 0),
  (10, 1, .aload_n 0, [], 0),
  (11, 3, .getfield 160, [0, 7, 27, 0, 0, 930], 0),
  (14, 1, .aload_n 0, [], 0),
  (15, 3, .getfield 156, [0, 7, 0, 0, 0, 903], 0),
  (18, 3, .if_icmp .ge 20, [21], 0),
  (21, 1, .aload_n 0, [], 0),
  (22, 3, .getfield 160, [0, 7, 27, 0, 0, 930], 0),
  (25, 1, .istore_n 1, [], 0),
  (26, 1, .aload_n 0, [], 0),
  (27, 3, .invokevirtual 179, [104, 1, 1, 7, 1060], 0),
  (30, 3, .ifCond .ne 5, [20], 0),
  (33, 1, .iload_n 1, [], 0),
  (34, 1, .ireturn, [0], 0),
  (35, 3, .goto (-25), [6], 0),
  (38, 2, .bipush (-4), [], (-4)),
  (40, 1, .ireturn, [0], 0)]
def cM_fault : List am_W := [(0, 1, .aload_n 0, [], 0),
  (1, 3, .invokevirtual 183, [105, 1, 1, 7, 1056], 0),
  (4, 1, .ireturn, [0], 0)]
def cM_lay : List am_W := [(0, 1, .aload_n 0, [], 0),
  (1, 3, .invokevirtual 183, [105, 1, 1, 7, 1056], 0),
  (4, 2, .bipush (-4), [], (-4)),
  (6, 3, .if_icmp .ne 12, [9], 0),
  (9, 1, .aload_n 0, [], 0),
  (10, 3, .getfield 37, [1, 7, 10, 102, 10, 913], 0),
  (13, 1, .iconst 1, [], 1),
  (14, 1, .iaload, [], 0),
  (15, 3, .ifCond .ne 6, [11], 0),
  (18, 2, .bipush (-2), [], (-2)),
  (20, 1, .ireturn, [0], 0),
  (21, 1, .aload_n 0, [], 0),
  (22, 3, .getfield 13, [1, 7, 2, 102, 2, 905], 0),
  (25, 1, .iconst 0, [], 0),
  (26, 1, .aload_n 0, [], 0),
  (27, 3, .getfield 13, [1, 7, 2, 102, 2, 905], 0),
  (30, 1, .iconst 1, [], 1),
  (31, 1, .iaload, [], 0),
  (32, 1, .iastore, [], 0),
  (33, 1, .aload_n 0, [], 0),
  (34, 3, .getfield 25, [1, 7, 6, 102, 6, 909], 0),
  (37, 1, .iconst 0, [], 0),
  (38, 1, .aload_n 0, [], 0),
  (39, 3, .getfield 25, [1, 7, 6, 102, 6, 909], 0),
  (42, 1, .iconst 1, [], 1),
  (43, 1, .iaload, [], 0),
  (44, 1, .iastore, [], 0),
  (45, 1, .aload_n 0, [], 0),
  (46, 3, .getfield 37, [1, 7, 10, 102, 10, 913], 0),
  (49, 1, .iconst 0, [], 0),
  (50, 1, .aload_n 0, [], 0),
  (51, 3, .getfield 37, [1, 7, 10, 102, 10, 913], 0),
  (54, 1, .iconst 1, [], 1),
  (55, 1, .iaload, [], 0),
  (56, 1, .iastore, [], 0),
  (57, 1, .aload_n 0, [], 0),
  (58, 3, .getfield 46, [1, 7, 13, 102, 13, 916], 0),
  (61, 1, .iconst 0, [], 0),
  (62, 1, .aload_n 0, [], 0),
  (63, 3, .getfield 46, [1, 7, 13, 102, 13, 916], 0),
  (66, 1, .iconst 1, [], 1),
  (67, 1, .iaload, [], 0),
  (68, 1, .iastore, [], 0),
  (69, 1, .aload_n 0, [], 0),
  (70, 3, .getfield 58, [1, 7, 17, 102, 17, 920], 0),
  (73, 1, .iconst 0, [], 0),
  (74, 1, .aload_n 0, [], 0),
  (75, 3, .getfield 58, [1, 7, 17, 102, 17, 920], 0),
  (78, 1, .iconst 1, [], 1),
  (79, 1, .iaload, [], 0),
  (80, 1, .iastore, [], 0),
  (81, 1, .iconst 0, [], 0),
  (82, 1, .istore_n 1, [], 0),
  (83, 0, .nop, [54], 0),
  (83, 1, .iload_n 1, [], 0),
  (84, 2, .bipush 6, [], 6),
  (86, 3, .if_icmp .ge 54, [89], 0),
  (89, 1, .aload_n 0, [], 0),
  (90, 3, .getfield 16, [1, 7, 3, 112, 3, 906], 0),
  (93, 1, .iload_n 1, [], 0),
  (94, 1, .aload_n 0, [], 0),
  (95, 3, .getfield 16, [1, 7, 3, 112, 3, 906], 0),
  (98, 2, .bipush 6, [], 6),
  (100, 1, .iload_n 1, [], 0),
  (101, 1, .iadd, [], 0),
  (102, 1, .iaload, [], 0),
  (103, 1, .iastore, [], 0),
  (104, 1, .aload_n 0, [], 0),
  (105, 3, .getfield 19, [1, 7, 4, 112, 4, 907], 0),
  (108, 1, .iload_n 1, [], 0),
  (109, 1, .aload_n 0, [], 0),
  (110, 3, .getfield 19, [1, 7, 4, 112, 4, 907], 0),
  (113, 2, .bipush 6, [], 6),
  (115, 1, .iload_n 1, [], 0),
  (116, 1, .iadd, [], 0),
  (117, 1, .iaload, [], 0),
  (118, 1, .iastore, [], 0),
  (119, 1, .aload_n 0, [], 0),
  (120, 3, .getfield 22, [1, 7, 5, 112, 5, 908], 0),
  (123, 1, .iload_n 1, [], 0),
  (124, 1, .aload_n 0, [], 0),
  (125, 3, .getfield 22, [1, 7, 5, 112, 5, 908], 0),
  (128, 2, .bipush 6, [], 6),
  (130, 1, .iload_n 1, [], 0),
  (131, 1, .iadd, [], 0),
  (132, 1, .iaload, [], 0),
  (133, 1, .iastore, [], 0),
  (134, 3, .iinc 1 1, [], 1),
  (137, 3, .goto (-54), [53], 0),
  (140, 1, .iconst 0, [], 0),
  (141, 1, .istore_n 1, [], 0),
  (142, 0, .nop, [92], 0),
  (142, 1, .iload_n 1, [], 0),
  (143, 2, .bipush 8, [], 8),
  (145, 3, .if_icmp .ge 54, [127], 0),
  (148, 1, .aload_n 0, [], 0),
  (149, 3, .getfield 28, [1, 7, 7, 116, 7, 910], 0),
  (152, 1, .iload_n 1, [], 0),
  (153, 1, .aload_n 0, [], 0),
  (154, 3, .getfield 28, [1, 7, 7, 116, 7, 910], 0),
  (157, 2, .bipush 8, [], 8),
  (159, 1, .iload_n 1, [], 0),
  (160, 1, .iadd, [], 0),
  (161, 1, .iaload, [], 0),
  (162, 1, .iastore, [], 0),
  (163, 1, .aload_n 0, [], 0),
  (164, 3, .getfield 31, [1, 7, 8, 116, 8, 911], 0),
  (167, 1, .iload_n 1, [], 0),
  (168, 1, .aload_n 0, [], 0),
  (169, 3, .getfield 31, [1, 7, 8, 116, 8, 911], 0),
  (172, 2, .bipush 8, [], 8),
  (174, 1, .iload_n 1, [], 0),
  (175, 1, .iadd, [], 0),
  (176, 1, .iaload, [], 0),
  (177, 1, .iastore, [], 0),
  (178, 1, .aload_n 0, [], 0),
  (179, 3, .getfield 34, [1, 7, 9, 116, 9, 912], 0),
  (182, 1, .iload_n 1, [], 0),
  (183, 1, .aload_n 0, [], 0),
  (184, 3, .getfield 34, [1, 7, 9, 116, 9, 912], 0),
  (187, 2, .bipush 8, [], 8),
  (189, 1, .iload_n 1, [], 0),
  (190, 1, .iadd, [], 0),
  (191, 1, .iaload, [], 0),
  (192, 1, .iastore, [], 0),
  (193, 3, .iinc 1 1, [], 1),
  (196, 3, .goto (-54), [91], 0),
  (199, 1, .iconst 0, [], 0),
  (200, 1, .istore_n 1, [], 0),
  (201, 0, .nop, [130], 0),
  (201, 1, .iload_n 1, [], 0),
  (202, 1, .iconst 4, [], 4),
  (203, 3, .if_icmp .ge 37, [155], 0),
  (206, 1, .aload_n 0, [], 0),
  (207, 3, .getfield 40, [1, 7, 11, 108, 11, 914], 0),
  (210, 1, .iload_n 1, [], 0),
  (211, 1, .aload_n 0, [], 0),
  (212, 3, .getfield 40, [1, 7, 11, 108, 11, 914], 0),
  (215, 1, .iconst 4, [], 4),
  (216, 1, .iload_n 1, [], 0),
  (217, 1, .iadd, [], 0),
  (218, 1, .iaload, [], 0),
  (219, 1, .iastore, [], 0),
  (220, 1, .aload_n 0, [], 0),
  (221, 3, .getfield 43, [1, 7, 12, 108, 12, 915], 0),
  (224, 1, .iload_n 1, [], 0),
  (225, 1, .aload_n 0, [], 0),
  (226, 3, .getfield 43, [1, 7, 12, 108, 12, 915], 0),
  (229, 1, .iconst 4, [], 4),
  (230, 1, .iload_n 1, [], 0),
  (231, 1, .iadd, [], 0),
  (232, 1, .iaload, [], 0),
  (233, 1, .iastore, [], 0),
  (234, 3, .iinc 1 1, [], 1),
  (237, 3, .goto (-36), [129], 0),
  (240, 1, .iconst 0, [], 0),
  (241, 1, .istore_n 1, [], 0),
  (242, 0, .nop, [158], 0),
  (242, 1, .iload_n 1, [], 0),
  (243, 1, .iconst 5, [], 5),
  (244, 3, .if_icmp .ge 51, [193], 0),
  (247, 1, .aload_n 0, [], 0),
  (248, 3, .getfield 49, [1, 7, 14, 110, 14, 917], 0),
  (251, 1, .iload_n 1, [], 0),
  (252, 1, .aload_n 0, [], 0),
  (253, 3, .getfield 49, [1, 7, 14, 110, 14, 917], 0),
  (256, 1, .iconst 5, [], 5),
  (257, 1, .iload_n 1, [], 0),
  (258, 1, .iadd, [], 0),
  (259, 1, .iaload, [], 0),
  (260, 1, .iastore, [], 0),
  (261, 1, .aload_n 0, [], 0),
  (262, 3, .getfield 52, [1, 7, 15, 110, 15, 918], 0),
  (265, 1, .iload_n 1, [], 0),
  (266, 1, .aload_n 0, [], 0),
  (267, 3, .getfield 52, [1, 7, 15, 110, 15, 918], 0),
  (270, 1, .iconst 5, [], 5),
  (271, 1, .iload_n 1, [], 0),
  (272, 1, .iadd, [], 0),
  (273, 1, .iaload, [], 0),
  (274, 1, .iastore, [], 0),
  (275, 1, .aload_n 0, [], 0),
  (276, 3, .getfield 55, [1, 7, 16, 110, 16, 919], 0),
  (279, 1, .iload_n 1, [], 0),
  (280, 1, .aload_n 0, [], 0),
  (281, 3, .getfield 55, [1, 7, 16, 110, 16, 919], 0),
  (284, 1, .iconst 5, [], 5),
  (285, 1, .iload_n 1, [], 0),
  (286, 1, .iadd, [], 0),
  (287, 1, .iaload, [], 0),
  (288, 1, .iastore, [], 0),
  (289, 3, .iinc 1 1, [], 1),
  (292, 3, .goto (-50), [157], 0),
  (295, 1, .aload_n 0, [], 0),
  (296, 3, .getfield 61, [1, 7, 18, 103, 18, 921], 0),
  (299, 1, .iconst 0, [], 0),
  (300, 1, .iconst 0, [], 0),
  (301, 1, .iastore, [], 0),
  (302, 1, .aload_n 0, [], 0),
  (303, 1, .iconst 0, [], 0),
  (304, 3, .putfield 187, [0, 7, 22, 0, 0, 925], 0),
  (307, 1, .aload_n 0, [], 0),
  (308, 1, .iconst 0, [], 0),
  (309, 3, .putfield 190, [0, 7, 23, 0, 0, 926], 0),
  (312, 1, .aload_n 0, [], 0),
  (313, 3, .invokevirtual 145, [123, 1, 0, 7, 855], 0),
  (316, 1, .aload_n 0, [], 0),
  (317, 3, .getfield 13, [1, 7, 2, 102, 2, 905], 0),
  (320, 1, .iconst 0, [], 0),
  (321, 1, .iaload, [], 0),
  (322, 1, .ireturn, [0], 0)]
def cM_isRoom : List am_W := [(0, 1, .iload_n 1, [], 0),
  (1, 1, .i2l, [], 0),
  (2, 1, .lconst 0, [], 0),
  (3, 1, .aload_n 0, [], 0),
  (4, 3, .getfield 13, [1, 7, 2, 102, 2, 905], 0),
  (7, 1, .iconst 0, [], 0),
  (8, 1, .iaload, [], 0),
  (9, 1, .iconst 1, [], 1),
  (10, 1, .isub, [], 0),
  (11, 1, .i2l, [], 0),
  (12, 3, .invokestatic 152, [95, 3, 1, 0, 1045], 0),
  (15, 1, .ireturn, [1], 0)]
def cM_isDoor : List am_W := [(0, 1, .iload_n 1, [], 0),
  (1, 1, .i2l, [], 0),
  (2, 1, .lconst 0, [], 0),
  (3, 1, .aload_n 0, [], 0),
  (4, 3, .getfield 25, [1, 7, 6, 102, 6, 909], 0),
  (7, 1, .iconst 0, [], 0),
  (8, 1, .iaload, [], 0),
  (9, 1, .iconst 1, [], 1),
  (10, 1, .isub, [], 0),
  (11, 1, .i2l, [], 0),
  (12, 3, .invokestatic 152, [95, 3, 1, 0, 1045], 0),
  (15, 1, .ireturn, [1], 0)]
def cM_isPerson : List am_W := [(0, 1, .iload_n 1, [], 0),
  (1, 1, .i2l, [], 0),
  (2, 1, .lconst 0, [], 0),
  (3, 1, .aload_n 0, [], 0),
  (4, 3, .getfield 37, [1, 7, 10, 102, 10, 913], 0),
  (7, 1, .iconst 0, [], 0),
  (8, 1, .iaload, [], 0),
  (9, 1, .iconst 1, [], 1),
  (10, 1, .isub, [], 0),
  (11, 1, .i2l, [], 0),
  (12, 3, .invokestatic 152, [95, 3, 1, 0, 1045], 0),
  (15, 1, .ireturn, [1], 0)]
def cM_isThing : List am_W := [(0, 1, .iload_n 1, [], 0),
  (1, 1, .i2l, [], 0),
  (2, 1, .lconst 0, [], 0),
  (3, 1, .aload_n 0, [], 0),
  (4, 3, .getfield 46, [1, 7, 13, 102, 13, 916], 0),
  (7, 1, .iconst 0, [], 0),
  (8, 1, .iaload, [], 0),
  (9, 1, .iconst 1, [], 1),
  (10, 1, .isub, [], 0),
  (11, 1, .i2l, [], 0),
  (12, 3, .invokestatic 152, [95, 3, 1, 0, 1045], 0),
  (15, 1, .ireturn, [1], 0)]
def cM_hourOf : List am_W := [(0, 2, .bipush 12, [], 12),
  (2, 1, .aload_n 0, [], 0),
  (3, 3, .getfield 19, [1, 7, 4, 112, 4, 907], 0),
  (6, 1, .iload_n 1, [], 0),
  (7, 1, .iaload, [], 0),
  (8, 1, .imul, [], 0),
  (9, 1, .aload_n 0, [], 0),
  (10, 3, .getfield 16, [1, 7, 3, 112, 3, 906], 0),
  (13, 1, .iload_n 1, [], 0),
  (14, 1, .iaload, [], 0),
  (15, 1, .idiv, [], 0),
  (16, 1, .ireturn, [0], 0)]
def cM_oldBy : List am_W := [(0, 1, .iload_n 2, [], 0),
  (1, 1, .aload_n 0, [], 0),
  (2, 3, .getfield 16, [1, 7, 3, 112, 3, 906], 0),
  (5, 1, .iload_n 1, [], 0),
  (6, 1, .iaload, [], 0),
  (7, 1, .imul, [], 0),
  (8, 2, .bipush 12, [], 12),
  (10, 1, .aload_n 0, [], 0),
  (11, 3, .getfield 19, [1, 7, 4, 112, 4, 907], 0),
  (14, 1, .iload_n 1, [], 0),
  (15, 1, .iaload, [], 0),
  (16, 1, .idiv, [], 0),
  (17, 1, .imul, [], 0),
  (18, 1, .ireturn, [0], 0)]
def cM_goBy : List am_W := [(0, 1, .aload_n 0, [], 0),
  (1, 3, .getfield 88, [1, 7, 30, 104, 27, 933], 0),
  (4, 1, .iload_n 1, [], 0),
  (5, 1, .dup2, [], 0),
  (6, 1, .iaload, [], 0),
  (7, 1, .iload_n 2, [], 0),
  (8, 1, .aload_n 0, [], 0),
  (9, 1, .aload_n 0, [], 0),
  (10, 3, .getfield 85, [1, 7, 29, 104, 26, 932], 0),
  (13, 1, .iload_n 1, [], 0),
  (14, 1, .iaload, [], 0),
  (15, 3, .invokevirtual 193, [112, 2, 1, 7, 871], 0),
  (18, 1, .imul, [], 0),
  (19, 1, .iadd, [], 0),
  (20, 1, .iastore, [], 0),
  (21, 1, .aload_n 0, [], 0),
  (22, 3, .getfield 91, [1, 7, 31, 104, 28, 934], 0),
  (25, 1, .iload_n 1, [], 0),
  (26, 1, .dup2, [], 0),
  (27, 1, .iaload, [], 0),
  (28, 1, .iload_n 2, [], 0),
  (29, 1, .iadd, [], 0),
  (30, 1, .iastore, [], 0),
  (31, 1, .iconst 0, [], 0),
  (32, 1, .istore_n 3, [], 0),
  (33, 0, .nop, [26], 0),
  (33, 1, .iload_n 3, [], 0),
  (34, 1, .aload_n 0, [], 0),
  (35, 3, .getfield 46, [1, 7, 13, 102, 13, 916], 0),
  (38, 1, .iconst 0, [], 0),
  (39, 1, .iaload, [], 0),
  (40, 3, .if_icmp .ge 37, [52], 0),
  (43, 1, .aload_n 0, [], 0),
  (44, 3, .getfield 103, [1, 7, 35, 105, 32, 938], 0),
  (47, 1, .iload_n 3, [], 0),
  (48, 1, .dup2, [], 0),
  (49, 1, .iaload, [], 0),
  (50, 1, .aload_n 0, [], 0),
  (51, 3, .getfield 97, [1, 7, 33, 105, 30, 936], 0),
  (54, 1, .iload_n 3, [], 0),
  (55, 1, .iaload, [], 0),
  (56, 1, .iload_n 1, [], 0),
  (57, 3, .if_icmp .ne 11, [47], 0),
  (60, 3, .sipush 144, [], 144),
  (63, 1, .iload_n 2, [], 0),
  (64, 1, .imul, [], 0),
  (65, 3, .goto 4, [48], 0),
  (68, 1, .iconst 0, [], 0),
  (69, 1, .iadd, [], 0),
  (70, 1, .iastore, [], 0),
  (71, 3, .iinc 3 1, [], 1),
  (74, 3, .goto (-41), [25], 0),
  (77, 1, .aload_n 0, [], 0),
  (78, 3, .getfield 115, [1, 7, 39, 264, 36, 942], 0),
  (81, 2, .bipush 41, [], 41),
  (83, 1, .iload_n 1, [], 0),
  (84, 1, .imul, [], 0),
  (85, 1, .aload_n 0, [], 0),
  (86, 3, .getfield 106, [1, 7, 36, 104, 33, 939], 0),
  (89, 1, .iload_n 1, [], 0),
  (90, 1, .iaload, [], 0),
  (91, 1, .iadd, [], 0),
  (92, 1, .iconst 1, [], 1),
  (93, 1, .isub, [], 0),
  (94, 1, .aload_n 0, [], 0),
  (95, 3, .getfield 88, [1, 7, 30, 104, 27, 933], 0),
  (98, 1, .iload_n 1, [], 0),
  (99, 1, .iaload, [], 0),
  (100, 1, .iastore, [], 0),
  (101, 1, .return_, [], 0)]
def cM_isBeside : List am_W := [(0, 1, .aload_n 0, [], 0),
  (1, 3, .getfield 28, [1, 7, 7, 116, 7, 910], 0),
  (4, 1, .iload_n 1, [], 0),
  (5, 1, .iaload, [], 0),
  (6, 1, .iload_n 2, [], 0),
  (7, 3, .if_icmp .eq 13, [12], 0),
  (10, 1, .aload_n 0, [], 0),
  (11, 3, .getfield 31, [1, 7, 8, 116, 8, 911], 0),
  (14, 1, .iload_n 1, [], 0),
  (15, 1, .iaload, [], 0),
  (16, 1, .iload_n 2, [], 0),
  (17, 3, .if_icmp .ne 7, [14], 0),
  (20, 1, .iconst 1, [], 1),
  (21, 3, .goto 4, [15], 0),
  (24, 1, .iconst 0, [], 0),
  (25, 1, .ireturn, [1], 0)]
def cM_leadFrom : List am_W := [(0, 1, .aload_n 0, [], 0),
  (1, 3, .getfield 28, [1, 7, 7, 116, 7, 910], 0),
  (4, 1, .iload_n 1, [], 0),
  (5, 1, .iaload, [], 0),
  (6, 1, .iload_n 2, [], 0),
  (7, 3, .if_icmp .ne 12, [11], 0),
  (10, 1, .aload_n 0, [], 0),
  (11, 3, .getfield 34, [1, 7, 9, 116, 9, 912], 0),
  (14, 1, .iload_n 1, [], 0),
  (15, 1, .iaload, [], 0),
  (16, 3, .goto 10, [16], 0),
  (19, 1, .aload_n 0, [], 0),
  (20, 3, .getfield 34, [1, 7, 9, 116, 9, 912], 0),
  (23, 1, .iload_n 1, [], 0),
  (24, 1, .iaload, [], 0),
  (25, 1, .ineg, [], 0),
  (26, 1, .ireturn, [0], 0)]
def cM_beyond : List am_W := [(0, 1, .aload_n 0, [], 0),
  (1, 3, .getfield 28, [1, 7, 7, 116, 7, 910], 0),
  (4, 1, .iload_n 1, [], 0),
  (5, 1, .iaload, [], 0),
  (6, 1, .iload_n 2, [], 0),
  (7, 3, .if_icmp .ne 12, [11], 0),
  (10, 1, .aload_n 0, [], 0),
  (11, 3, .getfield 31, [1, 7, 8, 116, 8, 911], 0),
  (14, 1, .iload_n 1, [], 0),
  (15, 1, .iaload, [], 0),
  (16, 3, .goto 9, [15], 0),
  (19, 1, .aload_n 0, [], 0),
  (20, 3, .getfield 28, [1, 7, 7, 116, 7, 910], 0),
  (23, 1, .iload_n 1, [], 0),
  (24, 1, .iaload, [], 0),
  (25, 1, .ireturn, [0], 0)]
def cM_comeIn : List am_W := [(0, 2, .bipush 41, [], 41),
  (2, 1, .iload_n 1, [], 0),
  (3, 1, .imul, [], 0),
  (4, 1, .aload_n 0, [], 0),
  (5, 3, .getfield 106, [1, 7, 36, 104, 33, 939], 0),
  (8, 1, .iload_n 1, [], 0),
  (9, 1, .iaload, [], 0),
  (10, 1, .iadd, [], 0),
  (11, 1, .istore_n 3, [], 0),
  (12, 1, .aload_n 0, [], 0),
  (13, 3, .getfield 85, [1, 7, 29, 104, 26, 932], 0),
  (16, 1, .iload_n 1, [], 0),
  (17, 1, .iload_n 2, [], 0),
  (18, 1, .iastore, [], 0),
  (19, 1, .aload_n 0, [], 0),
  (20, 3, .getfield 109, [1, 7, 37, 264, 34, 940], 0),
  (23, 1, .iload_n 3, [], 0),
  (24, 1, .iload_n 2, [], 0),
  (25, 1, .iastore, [], 0),
  (26, 1, .aload_n 0, [], 0),
  (27, 3, .getfield 112, [1, 7, 38, 264, 35, 941], 0),
  (30, 1, .iload_n 3, [], 0),
  (31, 1, .aload_n 0, [], 0),
  (32, 3, .getfield 88, [1, 7, 30, 104, 27, 933], 0),
  (35, 1, .iload_n 1, [], 0),
  (36, 1, .iaload, [], 0),
  (37, 1, .iastore, [], 0),
  (38, 1, .aload_n 0, [], 0),
  (39, 3, .getfield 115, [1, 7, 39, 264, 36, 942], 0),
  (42, 1, .iload_n 3, [], 0),
  (43, 1, .aload_n 0, [], 0),
  (44, 3, .getfield 88, [1, 7, 30, 104, 27, 933], 0),
  (47, 1, .iload_n 1, [], 0),
  (48, 1, .iaload, [], 0),
  (49, 1, .iastore, [], 0),
  (50, 1, .aload_n 0, [], 0),
  (51, 3, .getfield 106, [1, 7, 36, 104, 33, 939], 0),
  (54, 1, .iload_n 1, [], 0),
  (55, 1, .dup2, [], 0),
  (56, 1, .iaload, [], 0),
  (57, 1, .iconst 1, [], 1),
  (58, 1, .iadd, [], 0),
  (59, 1, .iastore, [], 0),
  (60, 1, .return_, [], 0)]
def cM_goDoor : List am_W := [(0, 1, .aload_n 0, [], 0),
  (1, 1, .iload_n 2, [], 0),
  (2, 1, .aload_n 0, [], 0),
  (3, 3, .getfield 85, [1, 7, 29, 104, 26, 932], 0),
  (6, 1, .iload_n 1, [], 0),
  (7, 1, .iaload, [], 0),
  (8, 3, .invokevirtual 196, [115, 3, 1, 7, 879], 0),
  (11, 3, .ifCond .ne 5, [10], 0),
  (14, 1, .iconst 0, [], 0),
  (15, 1, .ireturn, [1], 0),
  (16, 1, .aload_n 0, [], 0),
  (17, 1, .iload_n 1, [], 0),
  (18, 1, .aload_n 0, [], 0),
  (19, 3, .getfield 58, [1, 7, 17, 102, 17, 920], 0),
  (22, 1, .iconst 0, [], 0),
  (23, 1, .iaload, [], 0),
  (24, 3, .invokevirtual 200, [114, 3, 0, 7, 867], 0),
  (27, 1, .aload_n 0, [], 0),
  (28, 3, .getfield 85, [1, 7, 29, 104, 26, 932], 0),
  (31, 1, .iload_n 1, [], 0),
  (32, 1, .iaload, [], 0),
  (33, 1, .istore_n 3, [], 0),
  (34, 1, .aload_n 0, [], 0),
  (35, 3, .getfield 88, [1, 7, 30, 104, 27, 933], 0),
  (38, 1, .iload_n 1, [], 0),
  (39, 1, .dup2, [], 0),
  (40, 1, .iaload, [], 0),
  (41, 2, .bipush 12, [], 12),
  (43, 1, .aload_n 0, [], 0),
  (44, 1, .iload_n 2, [], 0),
  (45, 1, .iload_n 3, [], 0),
  (46, 3, .invokevirtual 204, [116, 3, 1, 7, 883], 0),
  (49, 1, .imul, [], 0),
  (50, 1, .iadd, [], 0),
  (51, 1, .iastore, [], 0),
  (52, 1, .aload_n 0, [], 0),
  (53, 1, .iload_n 1, [], 0),
  (54, 1, .aload_n 0, [], 0),
  (55, 1, .iload_n 2, [], 0),
  (56, 1, .iload_n 3, [], 0),
  (57, 3, .invokevirtual 208, [117, 3, 1, 7, 887], 0),
  (60, 3, .invokevirtual 211, [118, 3, 0, 7, 859], 0),
  (63, 1, .iconst 1, [], 1),
  (64, 1, .ireturn, [1], 0)]
def cM_takeUp : List am_W := [(0, 1, .aload_n 0, [], 0),
  (1, 3, .getfield 94, [1, 7, 32, 105, 29, 935], 0),
  (4, 1, .iload_n 2, [], 0),
  (5, 1, .iaload, [], 0),
  (6, 1, .aload_n 0, [], 0),
  (7, 3, .getfield 85, [1, 7, 29, 104, 26, 932], 0),
  (10, 1, .iload_n 1, [], 0),
  (11, 1, .iaload, [], 0),
  (12, 3, .if_icmp .ne 18, [18], 0),
  (15, 1, .aload_n 0, [], 0),
  (16, 3, .getfield 100, [1, 7, 34, 105, 31, 937], 0),
  (19, 1, .iload_n 2, [], 0),
  (20, 1, .iaload, [], 0),
  (21, 1, .aload_n 0, [], 0),
  (22, 3, .getfield 88, [1, 7, 30, 104, 27, 933], 0),
  (25, 1, .iload_n 1, [], 0),
  (26, 1, .iaload, [], 0),
  (27, 3, .if_icmp .le 5, [20], 0),
  (30, 1, .iconst 0, [], 0),
  (31, 1, .ireturn, [1], 0),
  (32, 1, .aload_n 0, [], 0),
  (33, 3, .getfield 103, [1, 7, 35, 105, 32, 938], 0),
  (36, 1, .iload_n 2, [], 0),
  (37, 1, .dup2, [], 0),
  (38, 1, .iaload, [], 0),
  (39, 1, .aload_n 0, [], 0),
  (40, 1, .aload_n 0, [], 0),
  (41, 3, .getfield 85, [1, 7, 29, 104, 26, 932], 0),
  (44, 1, .iload_n 1, [], 0),
  (45, 1, .iaload, [], 0),
  (46, 1, .aload_n 0, [], 0),
  (47, 3, .getfield 88, [1, 7, 30, 104, 27, 933], 0),
  (50, 1, .iload_n 1, [], 0),
  (51, 1, .iaload, [], 0),
  (52, 1, .aload_n 0, [], 0),
  (53, 3, .getfield 100, [1, 7, 34, 105, 31, 937], 0),
  (56, 1, .iload_n 2, [], 0),
  (57, 1, .iaload, [], 0),
  (58, 1, .isub, [], 0),
  (59, 3, .invokevirtual 214, [113, 3, 1, 7, 895], 0),
  (62, 1, .iadd, [], 0),
  (63, 1, .iastore, [], 0),
  (64, 1, .aload_n 0, [], 0),
  (65, 3, .getfield 94, [1, 7, 32, 105, 29, 935], 0),
  (68, 1, .iload_n 2, [], 0),
  (69, 2, .bipush (-4), [], (-4)),
  (71, 1, .iastore, [], 0),
  (72, 1, .aload_n 0, [], 0),
  (73, 3, .getfield 97, [1, 7, 33, 105, 30, 936], 0),
  (76, 1, .iload_n 2, [], 0),
  (77, 1, .iload_n 1, [], 0),
  (78, 1, .iastore, [], 0),
  (79, 1, .iconst 1, [], 1),
  (80, 1, .ireturn, [1], 0)]
def cM_putDown : List am_W := [(0, 1, .aload_n 0, [], 0),
  (1, 3, .getfield 97, [1, 7, 33, 105, 30, 936], 0),
  (4, 1, .iload_n 2, [], 0),
  (5, 1, .iaload, [], 0),
  (6, 1, .iload_n 1, [], 0),
  (7, 3, .if_icmp .eq 5, [8], 0),
  (10, 1, .iconst 0, [], 0),
  (11, 1, .ireturn, [1], 0),
  (12, 1, .aload_n 0, [], 0),
  (13, 3, .getfield 97, [1, 7, 33, 105, 30, 936], 0),
  (16, 1, .iload_n 2, [], 0),
  (17, 2, .bipush (-4), [], (-4)),
  (19, 1, .iastore, [], 0),
  (20, 1, .aload_n 0, [], 0),
  (21, 3, .getfield 94, [1, 7, 32, 105, 29, 935], 0),
  (24, 1, .iload_n 2, [], 0),
  (25, 1, .aload_n 0, [], 0),
  (26, 3, .getfield 85, [1, 7, 29, 104, 26, 932], 0),
  (29, 1, .iload_n 1, [], 0),
  (30, 1, .iaload, [], 0),
  (31, 1, .iastore, [], 0),
  (32, 1, .aload_n 0, [], 0),
  (33, 3, .getfield 100, [1, 7, 34, 105, 31, 937], 0),
  (36, 1, .iload_n 2, [], 0),
  (37, 1, .aload_n 0, [], 0),
  (38, 3, .getfield 88, [1, 7, 30, 104, 27, 933], 0),
  (41, 1, .iload_n 1, [], 0),
  (42, 1, .iaload, [], 0),
  (43, 1, .iastore, [], 0),
  (44, 1, .iconst 1, [], 1),
  (45, 1, .ireturn, [1], 0)]
def cM_doAct : List am_W := [(0, 1, .iload_n 1, [], 0),
  (1, 27, .tableswitch 49 0 2 #[27, 35, 42], [18, 0, 2, 1, 8, 2, 13], 0),
  (28, 1, .aload_n 0, [], 0),
  (29, 1, .iload_n 2, [], 0),
  (30, 1, .iload_n 3, [], 0),
  (31, 3, .invokevirtual 200, [114, 3, 0, 7, 867], 0),
  (34, 1, .iconst 1, [], 1),
  (35, 1, .ireturn, [1], 0),
  (36, 1, .aload_n 0, [], 0),
  (37, 1, .iload_n 2, [], 0),
  (38, 1, .iload_n 3, [], 0),
  (39, 3, .invokevirtual 217, [119, 3, 1, 7, 875], 0),
  (42, 1, .ireturn, [1], 0),
  (43, 1, .aload_n 0, [], 0),
  (44, 1, .iload_n 2, [], 0),
  (45, 1, .iload_n 3, [], 0),
  (46, 3, .invokevirtual 220, [120, 3, 1, 7, 891], 0),
  (49, 1, .ireturn, [1], 0),
  (50, 1, .aload_n 0, [], 0),
  (51, 1, .iload_n 2, [], 0),
  (52, 1, .iload_n 3, [], 0),
  (53, 3, .invokevirtual 223, [121, 3, 1, 7, 899], 0),
  (56, 1, .ireturn, [1], 0)]
def cM_goAll : List am_W := [(0, 1, .iconst 0, [], 0),
  (1, 1, .istore_n 1, [], 0),
  (2, 0, .nop, [3], 0),
  (2, 1, .iload_n 1, [], 0),
  (3, 1, .aload_n 0, [], 0),
  (4, 3, .getfield 37, [1, 7, 10, 102, 10, 913], 0),
  (7, 1, .iconst 0, [], 0),
  (8, 1, .iaload, [], 0),
  (9, 3, .if_icmp .ge 46, [36], 0),
  (12, 1, .aload_n 0, [], 0),
  (13, 3, .getfield 88, [1, 7, 30, 104, 27, 933], 0),
  (16, 1, .iload_n 1, [], 0),
  (17, 1, .iconst 0, [], 0),
  (18, 1, .iastore, [], 0),
  (19, 1, .aload_n 0, [], 0),
  (20, 3, .getfield 91, [1, 7, 31, 104, 28, 934], 0),
  (23, 1, .iload_n 1, [], 0),
  (24, 1, .aload_n 0, [], 0),
  (25, 3, .getfield 43, [1, 7, 12, 108, 12, 915], 0),
  (28, 1, .iload_n 1, [], 0),
  (29, 1, .iaload, [], 0),
  (30, 1, .iastore, [], 0),
  (31, 1, .aload_n 0, [], 0),
  (32, 3, .getfield 106, [1, 7, 36, 104, 33, 939], 0),
  (35, 1, .iload_n 1, [], 0),
  (36, 1, .iconst 0, [], 0),
  (37, 1, .iastore, [], 0),
  (38, 1, .aload_n 0, [], 0),
  (39, 1, .iload_n 1, [], 0),
  (40, 1, .aload_n 0, [], 0),
  (41, 3, .getfield 40, [1, 7, 11, 108, 11, 914], 0),
  (44, 1, .iload_n 1, [], 0),
  (45, 1, .iaload, [], 0),
  (46, 3, .invokevirtual 211, [118, 3, 0, 7, 859], 0),
  (49, 3, .iinc 1 1, [], 1),
  (52, 3, .goto (-50), [2], 0),
  (55, 1, .iconst 0, [], 0),
  (56, 1, .istore_n 1, [], 0),
  (57, 0, .nop, [39], 0),
  (57, 1, .iload_n 1, [], 0),
  (58, 1, .aload_n 0, [], 0),
  (59, 3, .getfield 46, [1, 7, 13, 102, 13, 916], 0),
  (62, 1, .iconst 0, [], 0),
  (63, 1, .iaload, [], 0),
  (64, 3, .if_icmp .ge 43, [70], 0),
  (67, 1, .aload_n 0, [], 0),
  (68, 3, .getfield 94, [1, 7, 32, 105, 29, 935], 0),
  (71, 1, .iload_n 1, [], 0),
  (72, 1, .aload_n 0, [], 0),
  (73, 3, .getfield 49, [1, 7, 14, 110, 14, 917], 0),
  (76, 1, .iload_n 1, [], 0),
  (77, 1, .iaload, [], 0),
  (78, 1, .iastore, [], 0),
  (79, 1, .aload_n 0, [], 0),
  (80, 3, .getfield 97, [1, 7, 33, 105, 30, 936], 0),
  (83, 1, .iload_n 1, [], 0),
  (84, 2, .bipush (-4), [], (-4)),
  (86, 1, .iastore, [], 0),
  (87, 1, .aload_n 0, [], 0),
  (88, 3, .getfield 100, [1, 7, 34, 105, 31, 937], 0),
  (91, 1, .iload_n 1, [], 0),
  (92, 1, .iconst 0, [], 0),
  (93, 1, .iastore, [], 0),
  (94, 1, .aload_n 0, [], 0),
  (95, 3, .getfield 103, [1, 7, 35, 105, 32, 938], 0),
  (98, 1, .iload_n 1, [], 0),
  (99, 1, .iconst 0, [], 0),
  (100, 1, .iastore, [], 0),
  (101, 3, .iinc 1 1, [], 1),
  (104, 3, .goto (-47), [38], 0),
  (107, 1, .iconst 0, [], 0),
  (108, 1, .istore_n 1, [], 0),
  (109, 0, .nop, [73], 0),
  (109, 1, .iload_n 1, [], 0),
  (110, 1, .aload_n 0, [], 0),
  (111, 3, .getfield 61, [1, 7, 18, 103, 18, 921], 0),
  (114, 1, .iconst 0, [], 0),
  (115, 1, .iaload, [], 0),
  (116, 3, .if_icmp .ge 32, [96], 0),
  (119, 1, .aload_n 0, [], 0),
  (120, 1, .aload_n 0, [], 0),
  (121, 3, .getfield 64, [1, 7, 19, 220, 19, 922], 0),
  (124, 1, .iload_n 1, [], 0),
  (125, 1, .iaload, [], 0),
  (126, 1, .aload_n 0, [], 0),
  (127, 3, .getfield 67, [1, 7, 20, 220, 20, 923], 0),
  (130, 1, .iload_n 1, [], 0),
  (131, 1, .iaload, [], 0),
  (132, 1, .aload_n 0, [], 0),
  (133, 3, .getfield 70, [1, 7, 21, 220, 21, 924], 0),
  (136, 1, .iload_n 1, [], 0),
  (137, 1, .iaload, [], 0),
  (138, 3, .invokevirtual 226, [122, 4, 1, 7, 863], 0),
  (141, 1, .pop, [], 0),
  (142, 3, .iinc 1 1, [], 1),
  (145, 3, .goto (-36), [72], 0),
  (148, 1, .return_, [], 0)]
def cM_common : List am_W := [(0, 1, .iload_n 0, [], 0),
  (1, 1, .istore_n 2, [], 0),
  (2, 1, .iload_n 1, [], 0),
  (3, 1, .istore_n 3, [], 0),
  (4, 0, .nop, [5], 0),
  (4, 1, .iload_n 3, [], 0),
  (5, 3, .ifCond .eq 16, [16], 0),
  (8, 1, .iload_n 2, [], 0),
  (9, 1, .iload_n 3, [], 0),
  (10, 1, .irem, [], 0),
  (11, 2, .istore 4, [], 0),
  (13, 1, .iload_n 3, [], 0),
  (14, 1, .istore_n 2, [], 0),
  (15, 2, .iload 4, [], 0),
  (17, 1, .istore_n 3, [], 0),
  (18, 3, .goto (-14), [4], 0),
  (21, 1, .iload_n 2, [], 0),
  (22, 1, .ireturn, [0], 0)]
def cM_room : List am_W := [(0, 1, .aload_n 0, [], 0),
  (1, 1, .iload_n 1, [], 0),
  (2, 3, .invokevirtual 230, [108, 2, 1, 7, 1084], 0),
  (5, 3, .ifCond .eq 15, [10], 0),
  (8, 1, .iload_n 2, [], 0),
  (9, 1, .i2l, [], 0),
  (10, 1, .lconst 0, [], 0),
  (11, 3, .ldc2_w 233, [1088], 3),
  (14, 3, .invokestatic 152, [95, 3, 1, 0, 1045], 0),
  (17, 3, .ifCond .ne 5, [12], 0),
  (20, 1, .iconst (-1), [], (-1)),
  (21, 1, .ireturn, [0], 0),
  (22, 1, .iload_n 2, [], 0),
  (23, 3, .ifCond .ne 12, [19], 0),
  (26, 1, .aload_n 0, [], 0),
  (27, 3, .getfield 16, [1, 7, 3, 112, 3, 906], 0),
  (30, 1, .iload_n 1, [], 0),
  (31, 1, .iaload, [], 0),
  (32, 3, .goto 36, [38], 0),
  (35, 1, .iload_n 2, [], 0),
  (36, 1, .iconst 1, [], 1),
  (37, 3, .if_icmp .ne 12, [27], 0),
  (40, 1, .aload_n 0, [], 0),
  (41, 3, .getfield 19, [1, 7, 4, 112, 4, 907], 0),
  (44, 1, .iload_n 1, [], 0),
  (45, 1, .iaload, [], 0),
  (46, 3, .goto 22, [38], 0),
  (49, 1, .iload_n 2, [], 0),
  (50, 1, .iconst 2, [], 2),
  (51, 3, .if_icmp .ne 12, [35], 0),
  (54, 1, .aload_n 0, [], 0),
  (55, 3, .getfield 22, [1, 7, 5, 112, 5, 908], 0),
  (58, 1, .iload_n 1, [], 0),
  (59, 1, .iaload, [], 0),
  (60, 3, .goto 8, [38], 0),
  (63, 1, .aload_n 0, [], 0),
  (64, 1, .iload_n 1, [], 0),
  (65, 3, .invokevirtual 193, [112, 2, 1, 7, 871], 0),
  (68, 1, .ireturn, [0], 0)]
def cM_modulo : List am_W := [(0, 1, .iload_n 0, [], 0),
  (1, 1, .iload_n 1, [], 0),
  (2, 1, .irem, [], 0),
  (3, 1, .iload_n 1, [], 0),
  (4, 1, .iadd, [], 0),
  (5, 1, .iload_n 1, [], 0),
  (6, 1, .irem, [], 0),
  (7, 1, .ireturn, [0], 0)]
def cM_clock : List am_W := [(0, 1, .aload_n 0, [], 0),
  (1, 1, .iload_n 1, [], 0),
  (2, 3, .invokevirtual 230, [108, 2, 1, 7, 1084], 0),
  (5, 3, .ifCond .eq 27, [16], 0),
  (8, 1, .iload_n 2, [], 0),
  (9, 1, .i2l, [], 0),
  (10, 3, .ldc2_w 235, [1093], (-9999)),
  (13, 3, .ldc2_w 237, [1094], 9999),
  (16, 3, .invokestatic 152, [95, 3, 1, 0, 1045], 0),
  (19, 3, .ifCond .eq 13, [16], 0),
  (22, 1, .iload_n 3, [], 0),
  (23, 1, .i2l, [], 0),
  (24, 1, .lconst 0, [], 0),
  (25, 1, .lconst 1, [], 1),
  (26, 3, .invokestatic 152, [95, 3, 1, 0, 1045], 0),
  (29, 3, .ifCond .ne 5, [18], 0),
  (32, 1, .iconst (-1), [], (-1)),
  (33, 1, .ireturn, [0], 0),
  (34, 2, .bipush 12, [], 12),
  (36, 1, .aload_n 0, [], 0),
  (37, 3, .getfield 19, [1, 7, 4, 112, 4, 907], 0),
  (40, 1, .iload_n 1, [], 0),
  (41, 1, .iaload, [], 0),
  (42, 1, .imul, [], 0),
  (43, 2, .istore 4, [], 0),
  (45, 1, .aload_n 0, [], 0),
  (46, 3, .getfield 22, [1, 7, 5, 112, 5, 908], 0),
  (49, 1, .iload_n 1, [], 0),
  (50, 1, .iaload, [], 0),
  (51, 2, .iload 4, [], 0),
  (53, 1, .imul, [], 0),
  (54, 1, .iload_n 2, [], 0),
  (55, 1, .aload_n 0, [], 0),
  (56, 3, .getfield 16, [1, 7, 3, 112, 3, 906], 0),
  (59, 1, .iload_n 1, [], 0),
  (60, 1, .iaload, [], 0),
  (61, 1, .imul, [], 0),
  (62, 1, .iadd, [], 0),
  (63, 2, .bipush 24, [], 24),
  (65, 2, .iload 4, [], 0),
  (67, 1, .imul, [], 0),
  (68, 3, .invokestatic 239, [126, 2, 1, 0, 1095], 0),
  (71, 2, .istore 5, [], 0),
  (73, 2, .iload 5, [], 0),
  (75, 2, .iload 4, [], 0),
  (77, 3, .invokestatic 242, [124, 2, 1, 0, 1098], 0),
  (80, 2, .istore 6, [], 0),
  (82, 1, .iload_n 3, [], 0),
  (83, 3, .ifCond .ne 11, [53], 0),
  (86, 2, .iload 5, [], 0),
  (88, 2, .iload 6, [], 0),
  (90, 1, .idiv, [], 0),
  (91, 3, .goto 8, [56], 0),
  (94, 2, .iload 4, [], 0),
  (96, 2, .iload 6, [], 0),
  (98, 1, .idiv, [], 0),
  (99, 1, .ireturn, [0], 0)]
def cM_door : List am_W := [(0, 1, .aload_n 0, [], 0),
  (1, 1, .iload_n 1, [], 0),
  (2, 3, .invokevirtual 245, [109, 2, 1, 7, 1105], 0),
  (5, 3, .ifCond .eq 15, [10], 0),
  (8, 1, .iload_n 2, [], 0),
  (9, 1, .i2l, [], 0),
  (10, 1, .lconst 0, [], 0),
  (11, 3, .ldc2_w 171, [1074], 2),
  (14, 3, .invokestatic 152, [95, 3, 1, 0, 1045], 0),
  (17, 3, .ifCond .ne 5, [12], 0),
  (20, 1, .iconst (-1), [], (-1)),
  (21, 1, .ireturn, [0], 0),
  (22, 1, .iload_n 2, [], 0),
  (23, 3, .ifCond .ne 12, [19], 0),
  (26, 1, .aload_n 0, [], 0),
  (27, 3, .getfield 28, [1, 7, 7, 116, 7, 910], 0),
  (30, 1, .iload_n 1, [], 0),
  (31, 1, .iaload, [], 0),
  (32, 3, .goto 26, [33], 0),
  (35, 1, .iload_n 2, [], 0),
  (36, 1, .iconst 1, [], 1),
  (37, 3, .if_icmp .ne 12, [27], 0),
  (40, 1, .aload_n 0, [], 0),
  (41, 3, .getfield 31, [1, 7, 8, 116, 8, 911], 0),
  (44, 1, .iload_n 1, [], 0),
  (45, 1, .iaload, [], 0),
  (46, 3, .goto 12, [33], 0),
  (49, 1, .aload_n 0, [], 0),
  (50, 3, .getfield 34, [1, 7, 9, 116, 9, 912], 0),
  (53, 1, .iload_n 1, [], 0),
  (54, 1, .iaload, [], 0),
  (55, 2, .bipush 24, [], 24),
  (57, 1, .iadd, [], 0),
  (58, 1, .ireturn, [0], 0)]
def cM_thingsOf : List am_W := [(0, 1, .iconst 0, [], 0),
  (1, 1, .istore_n 2, [], 0),
  (2, 1, .iconst 0, [], 0),
  (3, 1, .istore_n 3, [], 0),
  (4, 0, .nop, [5], 0),
  (4, 1, .iload_n 3, [], 0),
  (5, 1, .aload_n 0, [], 0),
  (6, 3, .getfield 46, [1, 7, 13, 102, 13, 916], 0),
  (9, 1, .iconst 0, [], 0),
  (10, 1, .iaload, [], 0),
  (11, 3, .if_icmp .ge 29, [27], 0),
  (14, 1, .iload_n 2, [], 0),
  (15, 1, .aload_n 0, [], 0),
  (16, 3, .getfield 97, [1, 7, 33, 105, 30, 936], 0),
  (19, 1, .iload_n 3, [], 0),
  (20, 1, .iaload, [], 0),
  (21, 1, .iload_n 1, [], 0),
  (22, 3, .if_icmp .ne 9, [22], 0),
  (25, 1, .iconst 1, [], 1),
  (26, 1, .iload_n 3, [], 0),
  (27, 1, .ishl, [], 0),
  (28, 3, .goto 4, [23], 0),
  (31, 1, .iconst 0, [], 0),
  (32, 1, .ior, [], 0),
  (33, 1, .istore_n 2, [], 0),
  (34, 3, .iinc 3 1, [], 1),
  (37, 3, .goto (-33), [4], 0),
  (40, 1, .iload_n 2, [], 0),
  (41, 1, .ireturn, [0], 0)]
def cM_person : List am_W := [(0, 1, .aload_n 0, [], 0),
  (1, 1, .iload_n 1, [], 0),
  (2, 3, .invokevirtual 248, [110, 2, 1, 7, 1113], 0),
  (5, 3, .ifCond .eq 15, [10], 0),
  (8, 1, .iload_n 2, [], 0),
  (9, 1, .i2l, [], 0),
  (10, 1, .lconst 0, [], 0),
  (11, 3, .ldc2_w 177, [1075], 4),
  (14, 3, .invokestatic 152, [95, 3, 1, 0, 1045], 0),
  (17, 3, .ifCond .ne 5, [12], 0),
  (20, 1, .iconst (-1), [], (-1)),
  (21, 1, .ireturn, [0], 0),
  (22, 1, .iload_n 2, [], 0),
  (23, 29, .tableswitch 59 0 3 #[29, 36, 46, 53], [35, 0, 14, 1, 19, 2, 26, 3, 31], 0),
  (52, 1, .aload_n 0, [], 0),
  (53, 3, .getfield 85, [1, 7, 29, 104, 26, 932], 0),
  (56, 1, .iload_n 1, [], 0),
  (57, 1, .iaload, [], 0),
  (58, 1, .ireturn, [0], 0),
  (59, 1, .aload_n 0, [], 0),
  (60, 3, .getfield 88, [1, 7, 30, 104, 27, 933], 0),
  (63, 1, .iload_n 1, [], 0),
  (64, 1, .iaload, [], 0),
  (65, 2, .ldc 251, [1117], 100000),
  (67, 1, .iadd, [], 0),
  (68, 1, .ireturn, [0], 0),
  (69, 1, .aload_n 0, [], 0),
  (70, 3, .getfield 91, [1, 7, 31, 104, 28, 934], 0),
  (73, 1, .iload_n 1, [], 0),
  (74, 1, .iaload, [], 0),
  (75, 1, .ireturn, [0], 0),
  (76, 1, .aload_n 0, [], 0),
  (77, 1, .iload_n 1, [], 0),
  (78, 3, .invokevirtual 252, [129, 2, 1, 7, 1118], 0),
  (81, 1, .ireturn, [0], 0),
  (82, 1, .aload_n 0, [], 0),
  (83, 3, .getfield 106, [1, 7, 36, 104, 33, 939], 0),
  (86, 1, .iload_n 1, [], 0),
  (87, 1, .iaload, [], 0),
  (88, 1, .ireturn, [0], 0)]
def cM_thing : List am_W := [(0, 1, .aload_n 0, [], 0),
  (1, 1, .iload_n 1, [], 0),
  (2, 3, .invokevirtual 255, [111, 2, 1, 7, 1126], 0),
  (5, 3, .ifCond .eq 15, [10], 0),
  (8, 1, .iload_n 2, [], 0),
  (9, 1, .i2l, [], 0),
  (10, 1, .lconst 0, [], 0),
  (11, 3, .ldc2_w 258, [1130], 5),
  (14, 3, .invokestatic 152, [95, 3, 1, 0, 1045], 0),
  (17, 3, .ifCond .ne 5, [12], 0),
  (20, 1, .iconst (-1), [], (-1)),
  (21, 1, .ireturn, [0], 0),
  (22, 1, .iload_n 2, [], 0),
  (23, 33, .tableswitch 85 0 4 #[33, 40, 47, 54, 61], [48, 0, 14, 1, 19, 2, 24, 3, 29, 4, 34], 0),
  (56, 1, .aload_n 0, [], 0),
  (57, 3, .getfield 52, [1, 7, 15, 110, 15, 918], 0),
  (60, 1, .iload_n 1, [], 0),
  (61, 1, .iaload, [], 0),
  (62, 1, .ireturn, [0], 0),
  (63, 1, .aload_n 0, [], 0),
  (64, 3, .getfield 55, [1, 7, 16, 110, 16, 919], 0),
  (67, 1, .iload_n 1, [], 0),
  (68, 1, .iaload, [], 0),
  (69, 1, .ireturn, [0], 0),
  (70, 1, .aload_n 0, [], 0),
  (71, 3, .getfield 94, [1, 7, 32, 105, 29, 935], 0),
  (74, 1, .iload_n 1, [], 0),
  (75, 1, .iaload, [], 0),
  (76, 1, .ireturn, [0], 0),
  (77, 1, .aload_n 0, [], 0),
  (78, 3, .getfield 97, [1, 7, 33, 105, 30, 936], 0),
  (81, 1, .iload_n 1, [], 0),
  (82, 1, .iaload, [], 0),
  (83, 1, .ireturn, [0], 0),
  (84, 1, .aload_n 0, [], 0),
  (85, 3, .getfield 94, [1, 7, 32, 105, 29, 935], 0),
  (88, 1, .iload_n 1, [], 0),
  (89, 1, .iaload, [], 0),
  (90, 3, .ifCond .ge 8, [41], 0),
  (93, 2, .bipush (-4), [], (-4)),
  (95, 3, .goto 12, [47], 0),
  (98, 1, .aload_n 0, [], 0),
  (99, 3, .getfield 100, [1, 7, 34, 105, 31, 937], 0),
  (102, 1, .iload_n 1, [], 0),
  (103, 1, .iaload, [], 0),
  (104, 2, .ldc 251, [1117], 100000),
  (106, 1, .iadd, [], 0),
  (107, 1, .ireturn, [0], 0),
  (108, 1, .aload_n 0, [], 0),
  (109, 3, .getfield 103, [1, 7, 35, 105, 32, 938], 0),
  (112, 1, .iload_n 1, [], 0),
  (113, 1, .iaload, [], 0),
  (114, 3, .sipush 144, [], 144),
  (117, 1, .idiv, [], 0),
  (118, 1, .ireturn, [0], 0)]
def cM_worthOf : List am_W := [(0, 1, .iload_n 2, [], 0),
  (1, 3, .sipush 144, [], 144),
  (4, 1, .idiv, [], 0),
  (5, 1, .istore_n 3, [], 0),
  (6, 1, .aload_n 0, [], 0),
  (7, 3, .getfield 52, [1, 7, 15, 110, 15, 918], 0),
  (10, 1, .iload_n 1, [], 0),
  (11, 1, .iaload, [], 0),
  (12, 28, .tableswitch 74 0 2 #[28, 35, 58], [39, 0, 9, 1, 14, 2, 29], 0),
  (40, 1, .aload_n 0, [], 0),
  (41, 3, .getfield 55, [1, 7, 16, 110, 16, 919], 0),
  (44, 1, .iload_n 1, [], 0),
  (45, 1, .iaload, [], 0),
  (46, 1, .ireturn, [0], 0),
  (47, 1, .aload_n 0, [], 0),
  (48, 3, .getfield 55, [1, 7, 16, 110, 16, 919], 0),
  (51, 1, .iload_n 1, [], 0),
  (52, 1, .iaload, [], 0),
  (53, 1, .iload_n 3, [], 0),
  (54, 3, .if_icmp .le 14, [27], 0),
  (57, 1, .aload_n 0, [], 0),
  (58, 3, .getfield 55, [1, 7, 16, 110, 16, 919], 0),
  (61, 1, .iload_n 1, [], 0),
  (62, 1, .iaload, [], 0),
  (63, 1, .iload_n 3, [], 0),
  (64, 1, .isub, [], 0),
  (65, 3, .goto 4, [28], 0),
  (68, 1, .iconst 0, [], 0),
  (69, 1, .ireturn, [0], 0),
  (70, 1, .iload_n 3, [], 0),
  (71, 1, .aload_n 0, [], 0),
  (72, 3, .getfield 55, [1, 7, 16, 110, 16, 919], 0),
  (75, 1, .iload_n 1, [], 0),
  (76, 1, .iaload, [], 0),
  (77, 3, .if_icmp .lt 7, [37], 0),
  (80, 1, .iconst 1, [], 1),
  (81, 3, .goto 4, [38], 0),
  (84, 1, .iconst 0, [], 0),
  (85, 1, .ireturn, [0], 0),
  (86, 1, .iload_n 3, [], 0),
  (87, 1, .aload_n 0, [], 0),
  (88, 3, .getfield 55, [1, 7, 16, 110, 16, 919], 0),
  (91, 1, .iload_n 1, [], 0),
  (92, 1, .iaload, [], 0),
  (93, 3, .if_icmp .ge 7, [47], 0),
  (96, 1, .iconst 1, [], 1),
  (97, 3, .goto 4, [48], 0),
  (100, 1, .iconst 0, [], 0),
  (101, 1, .ireturn, [0], 0)]
def cM_worth : List am_W := [(0, 1, .aload_n 0, [], 0),
  (1, 1, .iload_n 1, [], 0),
  (2, 3, .invokevirtual 255, [111, 2, 1, 7, 1126], 0),
  (5, 3, .ifCond .eq 17, [10], 0),
  (8, 1, .iload_n 2, [], 0),
  (9, 1, .i2l, [], 0),
  (10, 3, .ldc2_w 235, [1093], (-9999)),
  (13, 3, .ldc2_w 237, [1094], 9999),
  (16, 3, .invokestatic 152, [95, 3, 1, 0, 1045], 0),
  (19, 3, .ifCond .ne 5, [12], 0),
  (22, 1, .iconst (-1), [], (-1)),
  (23, 1, .ireturn, [0], 0),
  (24, 1, .aload_n 0, [], 0),
  (25, 3, .getfield 94, [1, 7, 32, 105, 29, 935], 0),
  (28, 1, .iload_n 1, [], 0),
  (29, 1, .iaload, [], 0),
  (30, 3, .ifCond .lt 13, [23], 0),
  (33, 1, .aload_n 0, [], 0),
  (34, 3, .getfield 100, [1, 7, 34, 105, 31, 937], 0),
  (37, 1, .iload_n 1, [], 0),
  (38, 1, .iaload, [], 0),
  (39, 1, .iload_n 2, [], 0),
  (40, 3, .if_icmp .le 6, [25], 0),
  (43, 2, .bipush (-2), [], (-2)),
  (45, 1, .ireturn, [0], 0),
  (46, 1, .aload_n 0, [], 0),
  (47, 1, .iload_n 1, [], 0),
  (48, 1, .aload_n 0, [], 0),
  (49, 3, .getfield 103, [1, 7, 35, 105, 32, 938], 0),
  (52, 1, .iload_n 1, [], 0),
  (53, 1, .iaload, [], 0),
  (54, 1, .aload_n 0, [], 0),
  (55, 1, .aload_n 0, [], 0),
  (56, 3, .getfield 94, [1, 7, 32, 105, 29, 935], 0),
  (59, 1, .iload_n 1, [], 0),
  (60, 1, .iaload, [], 0),
  (61, 1, .iload_n 2, [], 0),
  (62, 1, .aload_n 0, [], 0),
  (63, 3, .getfield 100, [1, 7, 34, 105, 31, 937], 0),
  (66, 1, .iload_n 1, [], 0),
  (67, 1, .iaload, [], 0),
  (68, 1, .isub, [], 0),
  (69, 3, .invokevirtual 214, [113, 3, 1, 7, 895], 0),
  (72, 1, .iadd, [], 0),
  (73, 3, .invokevirtual 260, [132, 3, 1, 7, 1135], 0),
  (76, 1, .ireturn, [0], 0)]
def cM_note : List am_W := [(0, 1, .aload_n 0, [], 0),
  (1, 3, .getfield 64, [1, 7, 19, 220, 19, 922], 0),
  (4, 1, .aload_n 0, [], 0),
  (5, 3, .getfield 61, [1, 7, 18, 103, 18, 921], 0),
  (8, 1, .iconst 0, [], 0),
  (9, 1, .iaload, [], 0),
  (10, 1, .iload_n 1, [], 0),
  (11, 1, .iastore, [], 0),
  (12, 1, .aload_n 0, [], 0),
  (13, 3, .getfield 67, [1, 7, 20, 220, 20, 923], 0),
  (16, 1, .aload_n 0, [], 0),
  (17, 3, .getfield 61, [1, 7, 18, 103, 18, 921], 0),
  (20, 1, .iconst 0, [], 0),
  (21, 1, .iaload, [], 0),
  (22, 1, .iload_n 2, [], 0),
  (23, 1, .iastore, [], 0),
  (24, 1, .aload_n 0, [], 0),
  (25, 3, .getfield 70, [1, 7, 21, 220, 21, 924], 0),
  (28, 1, .aload_n 0, [], 0),
  (29, 3, .getfield 61, [1, 7, 18, 103, 18, 921], 0),
  (32, 1, .iconst 0, [], 0),
  (33, 1, .iaload, [], 0),
  (34, 1, .iload_n 3, [], 0),
  (35, 1, .iastore, [], 0),
  (36, 1, .aload_n 0, [], 0),
  (37, 3, .getfield 61, [1, 7, 18, 103, 18, 921], 0),
  (40, 1, .iconst 0, [], 0),
  (41, 1, .dup2, [], 0),
  (42, 1, .iaload, [], 0),
  (43, 1, .iconst 1, [], 1),
  (44, 1, .iadd, [], 0),
  (45, 1, .iastore, [], 0),
  (46, 1, .return_, [], 0)]
def cM_bits : List am_W := [(0, 1, .iconst 0, [], 0),
  (1, 1, .istore_n 1, [], 0),
  (2, 1, .iload_n 0, [], 0),
  (3, 1, .istore_n 2, [], 0),
  (4, 0, .nop, [5], 0),
  (4, 1, .iload_n 2, [], 0),
  (5, 3, .ifCond .eq 15, [15], 0),
  (8, 3, .iinc 1 1, [], 1),
  (11, 1, .iload_n 2, [], 0),
  (12, 1, .iload_n 2, [], 0),
  (13, 1, .iconst 1, [], 1),
  (14, 1, .isub, [], 0),
  (15, 1, .iand, [], 0),
  (16, 1, .istore_n 2, [], 0),
  (17, 3, .goto (-13), [4], 0),
  (20, 1, .iload_n 1, [], 0),
  (21, 1, .ireturn, [0], 0)]
def cM_stay : List am_W := [(0, 1, .aload_n 0, [], 0),
  (1, 1, .iload_n 1, [], 0),
  (2, 3, .invokevirtual 248, [110, 2, 1, 7, 1113], 0),
  (5, 3, .ifCond .eq 15, [10], 0),
  (8, 1, .iload_n 2, [], 0),
  (9, 1, .i2l, [], 0),
  (10, 1, .lconst 1, [], 1),
  (11, 3, .ldc2_w 263, [1143], 24),
  (14, 3, .invokestatic 152, [95, 3, 1, 0, 1045], 0),
  (17, 3, .ifCond .ne 5, [12], 0),
  (20, 1, .iconst (-1), [], (-1)),
  (21, 1, .ireturn, [0], 0),
  (22, 1, .aload_n 0, [], 0),
  (23, 3, .getfield 61, [1, 7, 18, 103, 18, 921], 0),
  (26, 1, .iconst 0, [], 0),
  (27, 1, .iaload, [], 0),
  (28, 2, .bipush 40, [], 40),
  (30, 3, .if_icmp .ne 6, [20], 0),
  (33, 2, .bipush (-3), [], (-3)),
  (35, 1, .ireturn, [0], 0),
  (36, 1, .aload_n 0, [], 0),
  (37, 1, .iconst 0, [], 0),
  (38, 1, .iload_n 1, [], 0),
  (39, 1, .iload_n 2, [], 0),
  (40, 3, .invokevirtual 265, [134, 4, 0, 7, 1144], 0),
  (43, 1, .aload_n 0, [], 0),
  (44, 1, .iconst 0, [], 0),
  (45, 1, .iload_n 1, [], 0),
  (46, 1, .iload_n 2, [], 0),
  (47, 3, .invokevirtual 226, [122, 4, 1, 7, 863], 0),
  (50, 1, .pop, [], 0),
  (51, 1, .aload_n 0, [], 0),
  (52, 3, .getfield 88, [1, 7, 30, 104, 27, 933], 0),
  (55, 1, .iload_n 1, [], 0),
  (56, 1, .iaload, [], 0),
  (57, 2, .ldc 251, [1117], 100000),
  (59, 1, .iadd, [], 0),
  (60, 1, .ireturn, [0], 0)]
def cM_go : List am_W := [(0, 1, .aload_n 0, [], 0),
  (1, 1, .iload_n 1, [], 0),
  (2, 3, .invokevirtual 248, [110, 2, 1, 7, 1113], 0),
  (5, 3, .ifCond .eq 11, [8], 0),
  (8, 1, .aload_n 0, [], 0),
  (9, 1, .iload_n 2, [], 0),
  (10, 3, .invokevirtual 245, [109, 2, 1, 7, 1105], 0),
  (13, 3, .ifCond .ne 5, [10], 0),
  (16, 1, .iconst (-1), [], (-1)),
  (17, 1, .ireturn, [0], 0),
  (18, 1, .aload_n 0, [], 0),
  (19, 1, .iload_n 2, [], 0),
  (20, 1, .aload_n 0, [], 0),
  (21, 3, .getfield 85, [1, 7, 29, 104, 26, 932], 0),
  (24, 1, .iload_n 1, [], 0),
  (25, 1, .iaload, [], 0),
  (26, 3, .invokevirtual 196, [115, 3, 1, 7, 879], 0),
  (29, 3, .ifCond .ne 6, [20], 0),
  (32, 2, .bipush (-2), [], (-2)),
  (34, 1, .ireturn, [0], 0),
  (35, 1, .aload_n 0, [], 0),
  (36, 3, .getfield 61, [1, 7, 18, 103, 18, 921], 0),
  (39, 1, .iconst 0, [], 0),
  (40, 1, .iaload, [], 0),
  (41, 2, .bipush 40, [], 40),
  (43, 3, .if_icmp .ne 6, [28], 0),
  (46, 2, .bipush (-3), [], (-3)),
  (48, 1, .ireturn, [0], 0),
  (49, 1, .aload_n 0, [], 0),
  (50, 1, .iconst 1, [], 1),
  (51, 1, .iload_n 1, [], 0),
  (52, 1, .iload_n 2, [], 0),
  (53, 3, .invokevirtual 265, [134, 4, 0, 7, 1144], 0),
  (56, 1, .aload_n 0, [], 0),
  (57, 1, .iconst 1, [], 1),
  (58, 1, .iload_n 1, [], 0),
  (59, 1, .iload_n 2, [], 0),
  (60, 3, .invokevirtual 226, [122, 4, 1, 7, 863], 0),
  (63, 1, .pop, [], 0),
  (64, 1, .aload_n 0, [], 0),
  (65, 3, .getfield 88, [1, 7, 30, 104, 27, 933], 0),
  (68, 1, .iload_n 1, [], 0),
  (69, 1, .iaload, [], 0),
  (70, 2, .ldc 251, [1117], 100000),
  (72, 1, .iadd, [], 0),
  (73, 1, .ireturn, [0], 0)]
def cM_take : List am_W := [(0, 1, .aload_n 0, [], 0),
  (1, 1, .iload_n 1, [], 0),
  (2, 3, .invokevirtual 248, [110, 2, 1, 7, 1113], 0),
  (5, 3, .ifCond .eq 11, [8], 0),
  (8, 1, .aload_n 0, [], 0),
  (9, 1, .iload_n 2, [], 0),
  (10, 3, .invokevirtual 255, [111, 2, 1, 7, 1126], 0),
  (13, 3, .ifCond .ne 5, [10], 0),
  (16, 1, .iconst (-1), [], (-1)),
  (17, 1, .ireturn, [0], 0),
  (18, 1, .aload_n 0, [], 0),
  (19, 3, .getfield 94, [1, 7, 32, 105, 29, 935], 0),
  (22, 1, .iload_n 2, [], 0),
  (23, 1, .iaload, [], 0),
  (24, 1, .aload_n 0, [], 0),
  (25, 3, .getfield 85, [1, 7, 29, 104, 26, 932], 0),
  (28, 1, .iload_n 1, [], 0),
  (29, 1, .iaload, [], 0),
  (30, 3, .if_icmp .ne 18, [28], 0),
  (33, 1, .aload_n 0, [], 0),
  (34, 3, .getfield 100, [1, 7, 34, 105, 31, 937], 0),
  (37, 1, .iload_n 2, [], 0),
  (38, 1, .iaload, [], 0),
  (39, 1, .aload_n 0, [], 0),
  (40, 3, .getfield 88, [1, 7, 30, 104, 27, 933], 0),
  (43, 1, .iload_n 1, [], 0),
  (44, 1, .iaload, [], 0),
  (45, 3, .if_icmp .le 6, [30], 0),
  (48, 2, .bipush (-2), [], (-2)),
  (50, 1, .ireturn, [0], 0),
  (51, 1, .aload_n 0, [], 0),
  (52, 3, .getfield 61, [1, 7, 18, 103, 18, 921], 0),
  (55, 1, .iconst 0, [], 0),
  (56, 1, .iaload, [], 0),
  (57, 2, .bipush 40, [], 40),
  (59, 3, .if_icmp .ne 6, [38], 0),
  (62, 2, .bipush (-3), [], (-3)),
  (64, 1, .ireturn, [0], 0),
  (65, 1, .aload_n 0, [], 0),
  (66, 1, .iconst 2, [], 2),
  (67, 1, .iload_n 1, [], 0),
  (68, 1, .iload_n 2, [], 0),
  (69, 3, .invokevirtual 265, [134, 4, 0, 7, 1144], 0),
  (72, 1, .aload_n 0, [], 0),
  (73, 1, .iconst 2, [], 2),
  (74, 1, .iload_n 1, [], 0),
  (75, 1, .iload_n 2, [], 0),
  (76, 3, .invokevirtual 226, [122, 4, 1, 7, 863], 0),
  (79, 1, .pop, [], 0),
  (80, 1, .aload_n 0, [], 0),
  (81, 1, .iload_n 1, [], 0),
  (82, 3, .invokevirtual 252, [129, 2, 1, 7, 1118], 0),
  (85, 3, .invokestatic 269, [135, 1, 1, 0, 1156], 0),
  (88, 1, .ireturn, [0], 0)]
def cM_put : List am_W := [(0, 1, .aload_n 0, [], 0),
  (1, 1, .iload_n 1, [], 0),
  (2, 3, .invokevirtual 248, [110, 2, 1, 7, 1113], 0),
  (5, 3, .ifCond .eq 11, [8], 0),
  (8, 1, .aload_n 0, [], 0),
  (9, 1, .iload_n 2, [], 0),
  (10, 3, .invokevirtual 255, [111, 2, 1, 7, 1126], 0),
  (13, 3, .ifCond .ne 5, [10], 0),
  (16, 1, .iconst (-1), [], (-1)),
  (17, 1, .ireturn, [0], 0),
  (18, 1, .aload_n 0, [], 0),
  (19, 3, .getfield 97, [1, 7, 33, 105, 30, 936], 0),
  (22, 1, .iload_n 2, [], 0),
  (23, 1, .iaload, [], 0),
  (24, 1, .iload_n 1, [], 0),
  (25, 3, .if_icmp .eq 6, [18], 0),
  (28, 2, .bipush (-2), [], (-2)),
  (30, 1, .ireturn, [0], 0),
  (31, 1, .aload_n 0, [], 0),
  (32, 3, .getfield 61, [1, 7, 18, 103, 18, 921], 0),
  (35, 1, .iconst 0, [], 0),
  (36, 1, .iaload, [], 0),
  (37, 2, .bipush 40, [], 40),
  (39, 3, .if_icmp .ne 6, [26], 0),
  (42, 2, .bipush (-3), [], (-3)),
  (44, 1, .ireturn, [0], 0),
  (45, 1, .aload_n 0, [], 0),
  (46, 1, .iconst 3, [], 3),
  (47, 1, .iload_n 1, [], 0),
  (48, 1, .iload_n 2, [], 0),
  (49, 3, .invokevirtual 265, [134, 4, 0, 7, 1144], 0),
  (52, 1, .aload_n 0, [], 0),
  (53, 1, .iconst 3, [], 3),
  (54, 1, .iload_n 1, [], 0),
  (55, 1, .iload_n 2, [], 0),
  (56, 3, .invokevirtual 226, [122, 4, 1, 7, 863], 0),
  (59, 1, .pop, [], 0),
  (60, 1, .aload_n 0, [], 0),
  (61, 1, .iload_n 1, [], 0),
  (62, 3, .invokevirtual 252, [129, 2, 1, 7, 1118], 0),
  (65, 3, .invokestatic 269, [135, 1, 1, 0, 1156], 0),
  (68, 1, .ireturn, [0], 0)]
def cM_undo : List am_W := [(0, 1, .aload_n 0, [], 0),
  (1, 3, .getfield 61, [1, 7, 18, 103, 18, 921], 0),
  (4, 1, .iconst 0, [], 0),
  (5, 1, .iaload, [], 0),
  (6, 3, .ifCond .ne 6, [7], 0),
  (9, 2, .bipush (-2), [], (-2)),
  (11, 1, .ireturn, [0], 0),
  (12, 1, .aload_n 0, [], 0),
  (13, 3, .getfield 61, [1, 7, 18, 103, 18, 921], 0),
  (16, 1, .iconst 0, [], 0),
  (17, 1, .dup2, [], 0),
  (18, 1, .iaload, [], 0),
  (19, 1, .iconst 1, [], 1),
  (20, 1, .isub, [], 0),
  (21, 1, .iastore, [], 0),
  (22, 1, .aload_n 0, [], 0),
  (23, 3, .invokevirtual 145, [123, 1, 0, 7, 855], 0),
  (26, 1, .aload_n 0, [], 0),
  (27, 3, .getfield 61, [1, 7, 18, 103, 18, 921], 0),
  (30, 1, .iconst 0, [], 0),
  (31, 1, .iaload, [], 0),
  (32, 1, .ireturn, [0], 0)]
def cM_meet : List am_W := [(0, 1, .aload_n 0, [], 0),
  (1, 1, .iload_n 1, [], 0),
  (2, 3, .invokevirtual 248, [110, 2, 1, 7, 1113], 0),
  (5, 3, .ifCond .eq 21, [14], 0),
  (8, 1, .aload_n 0, [], 0),
  (9, 1, .iload_n 2, [], 0),
  (10, 3, .invokevirtual 248, [110, 2, 1, 7, 1113], 0),
  (13, 3, .ifCond .eq 13, [14], 0),
  (16, 1, .iload_n 3, [], 0),
  (17, 1, .i2l, [], 0),
  (18, 1, .lconst 0, [], 0),
  (19, 1, .lconst 1, [], 1),
  (20, 3, .invokestatic 152, [95, 3, 1, 0, 1045], 0),
  (23, 3, .ifCond .ne 5, [16], 0),
  (26, 1, .iconst (-1), [], (-1)),
  (27, 1, .ireturn, [0], 0),
  (28, 3, .ldc_w 272, [1171], 1000000),
  (31, 2, .istore 4, [], 0),
  (33, 2, .bipush (-4), [], (-4)),
  (35, 2, .istore 5, [], 0),
  (37, 2, .bipush 41, [], 41),
  (39, 1, .iload_n 1, [], 0),
  (40, 1, .imul, [], 0),
  (41, 2, .istore 6, [], 0),
  (43, 0, .nop, [25], 0),
  (43, 2, .iload 6, [], 0),
  (45, 2, .bipush 41, [], 41),
  (47, 1, .iload_n 1, [], 0),
  (48, 1, .imul, [], 0),
  (49, 1, .aload_n 0, [], 0),
  (50, 3, .getfield 106, [1, 7, 36, 104, 33, 939], 0),
  (53, 1, .iload_n 1, [], 0),
  (54, 1, .iaload, [], 0),
  (55, 1, .iadd, [], 0),
  (56, 3, .if_icmp .ge 172, [122], 0),
  (59, 2, .bipush 41, [], 41),
  (61, 1, .iload_n 2, [], 0),
  (62, 1, .imul, [], 0),
  (63, 2, .istore 7, [], 0),
  (65, 0, .nop, [40], 0),
  (65, 2, .iload 7, [], 0),
  (67, 2, .bipush 41, [], 41),
  (69, 1, .iload_n 2, [], 0),
  (70, 1, .imul, [], 0),
  (71, 1, .aload_n 0, [], 0),
  (72, 3, .getfield 106, [1, 7, 36, 104, 33, 939], 0),
  (75, 1, .iload_n 2, [], 0),
  (76, 1, .iaload, [], 0),
  (77, 1, .iadd, [], 0),
  (78, 3, .if_icmp .ge 144, [120], 0),
  (81, 1, .aload_n 0, [], 0),
  (82, 3, .getfield 112, [1, 7, 38, 264, 35, 941], 0),
  (85, 2, .iload 6, [], 0),
  (87, 1, .iaload, [], 0),
  (88, 1, .aload_n 0, [], 0),
  (89, 3, .getfield 112, [1, 7, 38, 264, 35, 941], 0),
  (92, 2, .iload 7, [], 0),
  (94, 1, .iaload, [], 0),
  (95, 3, .if_icmp .le 13, [64], 0),
  (98, 1, .aload_n 0, [], 0),
  (99, 3, .getfield 112, [1, 7, 38, 264, 35, 941], 0),
  (102, 2, .iload 6, [], 0),
  (104, 1, .iaload, [], 0),
  (105, 3, .goto 10, [68], 0),
  (108, 1, .aload_n 0, [], 0),
  (109, 3, .getfield 112, [1, 7, 38, 264, 35, 941], 0),
  (112, 2, .iload 7, [], 0),
  (114, 1, .iaload, [], 0),
  (115, 2, .istore 8, [], 0),
  (117, 2, .iload 6, [], 0),
  (119, 2, .iload 7, [], 0),
  (121, 3, .if_icmp .eq 48, [95], 0),
  (124, 1, .aload_n 0, [], 0),
  (125, 3, .getfield 109, [1, 7, 37, 264, 34, 940], 0),
  (128, 2, .iload 6, [], 0),
  (130, 1, .iaload, [], 0),
  (131, 1, .aload_n 0, [], 0),
  (132, 3, .getfield 109, [1, 7, 37, 264, 34, 940], 0),
  (135, 2, .iload 7, [], 0),
  (137, 1, .iaload, [], 0),
  (138, 3, .if_icmp .ne 31, [95], 0),
  (141, 2, .iload 8, [], 0),
  (143, 1, .aload_n 0, [], 0),
  (144, 3, .getfield 115, [1, 7, 39, 264, 36, 942], 0),
  (147, 2, .iload 6, [], 0),
  (149, 1, .iaload, [], 0),
  (150, 3, .if_icmp .gt 19, [95], 0),
  (153, 2, .iload 8, [], 0),
  (155, 1, .aload_n 0, [], 0),
  (156, 3, .getfield 115, [1, 7, 39, 264, 36, 942], 0),
  (159, 2, .iload 7, [], 0),
  (161, 1, .iaload, [], 0),
  (162, 3, .if_icmp .gt 7, [95], 0),
  (165, 1, .iconst 1, [], 1),
  (166, 3, .goto 4, [96], 0),
  (169, 1, .iconst 0, [], 0),
  (170, 2, .istore 9, [], 0),
  (172, 2, .iload 9, [], 0),
  (174, 3, .ifCond .eq 42, [118], 0),
  (177, 2, .iload 8, [], 0),
  (179, 2, .iload 4, [], 0),
  (181, 3, .if_icmp .lt 22, [111], 0),
  (184, 2, .iload 8, [], 0),
  (186, 2, .iload 4, [], 0),
  (188, 3, .if_icmp .ne 28, [118], 0),
  (191, 1, .aload_n 0, [], 0),
  (192, 3, .getfield 109, [1, 7, 37, 264, 34, 940], 0),
  (195, 2, .iload 6, [], 0),
  (197, 1, .iaload, [], 0),
  (198, 2, .iload 5, [], 0),
  (200, 3, .if_icmp .ge 16, [118], 0),
  (203, 2, .iload 8, [], 0),
  (205, 2, .istore 4, [], 0),
  (207, 1, .aload_n 0, [], 0),
  (208, 3, .getfield 109, [1, 7, 37, 264, 34, 940], 0),
  (211, 2, .iload 6, [], 0),
  (213, 1, .iaload, [], 0),
  (214, 2, .istore 5, [], 0),
  (216, 3, .iinc 7 1, [], 1),
  (219, 3, .goto (-154), [39], 0),
  (222, 3, .iinc 6 1, [], 1),
  (225, 3, .goto (-182), [24], 0),
  (228, 2, .iload 4, [], 0),
  (230, 3, .ldc_w 272, [1171], 1000000),
  (233, 3, .if_icmp .ne 8, [127], 0),
  (236, 2, .bipush (-4), [], (-4)),
  (238, 3, .goto 17, [134], 0),
  (241, 1, .iload_n 3, [], 0),
  (242, 3, .ifCond .ne 11, [133], 0),
  (245, 2, .iload 4, [], 0),
  (247, 2, .ldc 251, [1117], 100000),
  (249, 1, .iadd, [], 0),
  (250, 3, .goto 5, [134], 0),
  (253, 2, .iload 5, [], 0),
  (255, 1, .ireturn, [0], 0)]
def cM_costOf : List am_W := [(0, 1, .aload_n 0, [], 0),
  (1, 3, .getfield 58, [1, 7, 17, 102, 17, 920], 0),
  (4, 1, .iconst 0, [], 0),
  (5, 1, .iaload, [], 0),
  (6, 1, .aload_n 0, [], 0),
  (7, 1, .iload_n 2, [], 0),
  (8, 3, .invokevirtual 193, [112, 2, 1, 7, 871], 0),
  (11, 1, .imul, [], 0),
  (12, 2, .bipush 12, [], 12),
  (14, 1, .aload_n 0, [], 0),
  (15, 1, .iload_n 1, [], 0),
  (16, 1, .iload_n 2, [], 0),
  (17, 3, .invokevirtual 204, [116, 3, 1, 7, 883], 0),
  (20, 1, .imul, [], 0),
  (21, 1, .iadd, [], 0),
  (22, 1, .ireturn, [0], 0)]
def cM_layLow : List am_W := [(0, 1, .iconst 0, [], 0),
  (1, 1, .istore_n 3, [], 0),
  (2, 0, .nop, [3], 0),
  (2, 1, .iload_n 3, [], 0),
  (3, 2, .bipush 54, [], 54),
  (5, 3, .if_icmp .ge 18, [13], 0),
  (8, 1, .aload_n 0, [], 0),
  (9, 3, .getfield 118, [1, 7, 40, 154, 37, 943], 0),
  (12, 1, .iload_n 3, [], 0),
  (13, 3, .ldc_w 272, [1171], 1000000),
  (16, 1, .iastore, [], 0),
  (17, 3, .iinc 3 1, [], 1),
  (20, 3, .goto (-18), [2], 0),
  (23, 1, .aload_n 0, [], 0),
  (24, 3, .getfield 118, [1, 7, 40, 154, 37, 943], 0),
  (27, 1, .iload_n 1, [], 0),
  (28, 1, .iload_n 2, [], 0),
  (29, 1, .iastore, [], 0),
  (30, 1, .iconst 0, [], 0),
  (31, 1, .istore_n 3, [], 0),
  (32, 0, .nop, [21], 0),
  (32, 1, .iload_n 3, [], 0),
  (33, 2, .bipush 8, [], 8),
  (35, 3, .if_icmp .ge 157, [108], 0),
  (38, 1, .iconst 0, [], 0),
  (39, 2, .istore 4, [], 0),
  (41, 0, .nop, [27], 0),
  (41, 2, .iload 4, [], 0),
  (43, 1, .aload_n 0, [], 0),
  (44, 3, .getfield 25, [1, 7, 6, 102, 6, 909], 0),
  (47, 1, .iconst 0, [], 0),
  (48, 1, .iaload, [], 0),
  (49, 3, .if_icmp .ge 137, [106], 0),
  (52, 1, .iconst 0, [], 0),
  (53, 2, .istore 5, [], 0),
  (55, 0, .nop, [36], 0),
  (55, 2, .iload 5, [], 0),
  (57, 1, .iconst 2, [], 2),
  (58, 3, .if_icmp .ge 122, [104], 0),
  (61, 2, .iload 5, [], 0),
  (63, 3, .ifCond .ne 13, [46], 0),
  (66, 1, .aload_n 0, [], 0),
  (67, 3, .getfield 28, [1, 7, 7, 116, 7, 910], 0),
  (70, 2, .iload 4, [], 0),
  (72, 1, .iaload, [], 0),
  (73, 3, .goto 10, [50], 0),
  (76, 1, .aload_n 0, [], 0),
  (77, 3, .getfield 31, [1, 7, 8, 116, 8, 911], 0),
  (80, 2, .iload 4, [], 0),
  (82, 1, .iaload, [], 0),
  (83, 2, .istore 6, [], 0),
  (85, 2, .bipush 6, [], 6),
  (87, 1, .iload_n 3, [], 0),
  (88, 1, .iconst 1, [], 1),
  (89, 1, .iadd, [], 0),
  (90, 1, .imul, [], 0),
  (91, 1, .aload_n 0, [], 0),
  (92, 2, .iload 4, [], 0),
  (94, 2, .iload 6, [], 0),
  (96, 3, .invokevirtual 208, [117, 3, 1, 7, 887], 0),
  (99, 1, .iadd, [], 0),
  (100, 2, .istore 7, [], 0),
  (102, 1, .aload_n 0, [], 0),
  (103, 3, .getfield 118, [1, 7, 40, 154, 37, 943], 0),
  (106, 2, .bipush 6, [], 6),
  (108, 1, .iload_n 3, [], 0),
  (109, 1, .imul, [], 0),
  (110, 2, .iload 6, [], 0),
  (112, 1, .iadd, [], 0),
  (113, 1, .iaload, [], 0),
  (114, 1, .aload_n 0, [], 0),
  (115, 2, .iload 4, [], 0),
  (117, 2, .iload 6, [], 0),
  (119, 3, .invokevirtual 273, [142, 3, 1, 7, 1181], 0),
  (122, 1, .iadd, [], 0),
  (123, 2, .istore 8, [], 0),
  (125, 1, .aload_n 0, [], 0),
  (126, 3, .getfield 118, [1, 7, 40, 154, 37, 943], 0),
  (129, 2, .iload 7, [], 0),
  (131, 1, .aload_n 0, [], 0),
  (132, 3, .getfield 118, [1, 7, 40, 154, 37, 943], 0),
  (135, 2, .bipush 6, [], 6),
  (137, 1, .iload_n 3, [], 0),
  (138, 1, .imul, [], 0),
  (139, 2, .iload 6, [], 0),
  (141, 1, .iadd, [], 0),
  (142, 1, .iaload, [], 0),
  (143, 3, .ldc_w 272, [1171], 1000000),
  (146, 3, .if_icmp .ge 20, [97], 0),
  (149, 2, .iload 8, [], 0),
  (151, 1, .aload_n 0, [], 0),
  (152, 3, .getfield 118, [1, 7, 40, 154, 37, 943], 0),
  (155, 2, .iload 7, [], 0),
  (157, 1, .iaload, [], 0),
  (158, 3, .if_icmp .ge 8, [97], 0),
  (161, 2, .iload 8, [], 0),
  (163, 3, .goto 10, [101], 0),
  (166, 1, .aload_n 0, [], 0),
  (167, 3, .getfield 118, [1, 7, 40, 154, 37, 943], 0),
  (170, 2, .iload 7, [], 0),
  (172, 1, .iaload, [], 0),
  (173, 1, .iastore, [], 0),
  (174, 3, .iinc 5 1, [], 1),
  (177, 3, .goto (-122), [35], 0),
  (180, 3, .iinc 4 1, [], 1),
  (183, 3, .goto (-142), [26], 0),
  (186, 3, .iinc 3 1, [], 1),
  (189, 3, .goto (-157), [20], 0),
  (192, 1, .return_, [], 0)]
def cM_early : List am_W := [(0, 1, .aload_n 0, [], 0),
  (1, 1, .iload_n 1, [], 0),
  (2, 3, .invokevirtual 248, [110, 2, 1, 7, 1113], 0),
  (5, 3, .ifCond .eq 36, [20], 0),
  (8, 1, .aload_n 0, [], 0),
  (9, 1, .iload_n 2, [], 0),
  (10, 3, .invokevirtual 230, [108, 2, 1, 7, 1084], 0),
  (13, 3, .ifCond .eq 28, [20], 0),
  (16, 1, .iload_n 3, [], 0),
  (17, 1, .i2l, [], 0),
  (18, 1, .lconst 0, [], 0),
  (19, 3, .ldc2_w 276, [1176], 8),
  (22, 3, .invokestatic 152, [95, 3, 1, 0, 1045], 0),
  (25, 3, .ifCond .eq 16, [20], 0),
  (28, 2, .iload 4, [], 0),
  (30, 1, .i2l, [], 0),
  (31, 1, .lconst 0, [], 0),
  (32, 3, .ldc2_w 171, [1074], 2),
  (35, 3, .invokestatic 152, [95, 3, 1, 0, 1045], 0),
  (38, 3, .ifCond .ne 5, [22], 0),
  (41, 1, .iconst (-1), [], (-1)),
  (42, 1, .ireturn, [0], 0),
  (43, 1, .aload_n 0, [], 0),
  (44, 1, .aload_n 0, [], 0),
  (45, 3, .getfield 85, [1, 7, 29, 104, 26, 932], 0),
  (48, 1, .iload_n 1, [], 0),
  (49, 1, .iaload, [], 0),
  (50, 1, .aload_n 0, [], 0),
  (51, 3, .getfield 88, [1, 7, 30, 104, 27, 933], 0),
  (54, 1, .iload_n 1, [], 0),
  (55, 1, .iaload, [], 0),
  (56, 3, .invokevirtual 278, [143, 3, 0, 7, 1177], 0),
  (59, 2, .bipush (-4), [], (-4)),
  (61, 2, .istore 5, [], 0),
  (63, 3, .ldc_w 272, [1171], 1000000),
  (66, 2, .istore 6, [], 0),
  (68, 1, .iconst 0, [], 0),
  (69, 2, .istore 7, [], 0),
  (71, 0, .nop, [39], 0),
  (71, 2, .iload 7, [], 0),
  (73, 1, .iload_n 3, [], 0),
  (74, 3, .if_icmp .gt 71, [79], 0),
  (77, 1, .aload_n 0, [], 0),
  (78, 3, .getfield 118, [1, 7, 40, 154, 37, 943], 0),
  (81, 2, .bipush 6, [], 6),
  (83, 2, .iload 7, [], 0),
  (85, 1, .imul, [], 0),
  (86, 1, .iload_n 2, [], 0),
  (87, 1, .iadd, [], 0),
  (88, 1, .iaload, [], 0),
  (89, 2, .iload 6, [], 0),
  (91, 3, .if_icmp .ge 8, [54], 0),
  (94, 2, .iload 7, [], 0),
  (96, 3, .goto 5, [55], 0),
  (99, 2, .iload 5, [], 0),
  (101, 2, .istore 5, [], 0),
  (103, 1, .aload_n 0, [], 0),
  (104, 3, .getfield 118, [1, 7, 40, 154, 37, 943], 0),
  (107, 2, .bipush 6, [], 6),
  (109, 2, .iload 7, [], 0),
  (111, 1, .imul, [], 0),
  (112, 1, .iload_n 2, [], 0),
  (113, 1, .iadd, [], 0),
  (114, 1, .iaload, [], 0),
  (115, 2, .iload 6, [], 0),
  (117, 3, .if_icmp .ge 18, [75], 0),
  (120, 1, .aload_n 0, [], 0),
  (121, 3, .getfield 118, [1, 7, 40, 154, 37, 943], 0),
  (124, 2, .bipush 6, [], 6),
  (126, 2, .iload 7, [], 0),
  (128, 1, .imul, [], 0),
  (129, 1, .iload_n 2, [], 0),
  (130, 1, .iadd, [], 0),
  (131, 1, .iaload, [], 0),
  (132, 3, .goto 5, [76], 0),
  (135, 2, .iload 6, [], 0),
  (137, 2, .istore 6, [], 0),
  (139, 3, .iinc 7 1, [], 1),
  (142, 3, .goto (-71), [38], 0),
  (145, 2, .iload 5, [], 0),
  (147, 3, .ifCond .ge 6, [83], 0),
  (150, 2, .bipush (-4), [], (-4)),
  (152, 1, .ireturn, [0], 0),
  (153, 2, .iload 4, [], 0),
  (155, 1, .iconst 2, [], 2),
  (156, 3, .if_icmp .ge 19, [94], 0),
  (159, 2, .iload 4, [], 0),
  (161, 3, .ifCond .ne 11, [92], 0),
  (164, 2, .iload 6, [], 0),
  (166, 2, .ldc 251, [1117], 100000),
  (168, 1, .iadd, [], 0),
  (169, 3, .goto 5, [93], 0),
  (172, 2, .iload 5, [], 0),
  (174, 1, .ireturn, [0], 0),
  (175, 1, .iconst 0, [], 0),
  (176, 2, .istore 7, [], 0),
  (178, 0, .nop, [97], 0),
  (178, 2, .iload 7, [], 0),
  (180, 1, .aload_n 0, [], 0),
  (181, 3, .getfield 25, [1, 7, 6, 102, 6, 909], 0),
  (184, 1, .iconst 0, [], 0),
  (185, 1, .iaload, [], 0),
  (186, 3, .if_icmp .ge 86, [150], 0),
  (189, 2, .iload 5, [], 0),
  (191, 3, .ifCond .le 81, [150], 0),
  (194, 1, .aload_n 0, [], 0),
  (195, 2, .iload 7, [], 0),
  (197, 1, .aload_n 0, [], 0),
  (198, 3, .getfield 85, [1, 7, 29, 104, 26, 932], 0),
  (201, 1, .iload_n 1, [], 0),
  (202, 1, .iaload, [], 0),
  (203, 3, .invokevirtual 196, [115, 3, 1, 7, 879], 0),
  (206, 3, .ifCond .eq 60, [148], 0),
  (209, 1, .aload_n 0, [], 0),
  (210, 1, .aload_n 0, [], 0),
  (211, 2, .iload 7, [], 0),
  (213, 1, .aload_n 0, [], 0),
  (214, 3, .getfield 85, [1, 7, 29, 104, 26, 932], 0),
  (217, 1, .iload_n 1, [], 0),
  (218, 1, .iaload, [], 0),
  (219, 3, .invokevirtual 208, [117, 3, 1, 7, 887], 0),
  (222, 1, .aload_n 0, [], 0),
  (223, 3, .getfield 88, [1, 7, 30, 104, 27, 933], 0),
  (226, 1, .iload_n 1, [], 0),
  (227, 1, .iaload, [], 0),
  (228, 1, .aload_n 0, [], 0),
  (229, 2, .iload 7, [], 0),
  (231, 1, .aload_n 0, [], 0),
  (232, 3, .getfield 85, [1, 7, 29, 104, 26, 932], 0),
  (235, 1, .iload_n 1, [], 0),
  (236, 1, .iaload, [], 0),
  (237, 3, .invokevirtual 273, [142, 3, 1, 7, 1181], 0),
  (240, 1, .iadd, [], 0),
  (241, 3, .invokevirtual 278, [143, 3, 0, 7, 1177], 0),
  (244, 1, .aload_n 0, [], 0),
  (245, 3, .getfield 118, [1, 7, 40, 154, 37, 943], 0),
  (248, 2, .bipush 6, [], 6),
  (250, 2, .iload 5, [], 0),
  (252, 1, .iconst 1, [], 1),
  (253, 1, .isub, [], 0),
  (254, 1, .imul, [], 0),
  (255, 1, .iload_n 2, [], 0),
  (256, 1, .iadd, [], 0),
  (257, 1, .iaload, [], 0),
  (258, 2, .iload 6, [], 0),
  (260, 3, .if_icmp .ne 6, [148], 0),
  (263, 2, .iload 7, [], 0),
  (265, 1, .ireturn, [0], 0),
  (266, 3, .iinc 7 1, [], 1),
  (269, 3, .goto (-91), [96], 0),
  (272, 2, .bipush (-4), [], (-4)),
  (274, 1, .ireturn, [0], 0)]
def cM_ring : List am_W := [(0, 1, .iload_n 1, [], 0),
  (1, 1, .i2l, [], 0),
  (2, 1, .lconst 0, [], 0),
  (3, 3, .ldc2_w 171, [1074], 2),
  (6, 3, .invokestatic 152, [95, 3, 1, 0, 1045], 0),
  (9, 3, .ifCond .ne 5, [8], 0),
  (12, 1, .iconst (-1), [], (-1)),
  (13, 1, .ireturn, [0], 0),
  (14, 2, .bipush (-4), [], (-4)),
  (16, 1, .istore_n 2, [], 0),
  (17, 2, .bipush (-4), [], (-4)),
  (19, 1, .istore_n 3, [], 0),
  (20, 1, .iconst 0, [], 0),
  (21, 2, .istore 4, [], 0),
  (23, 1, .iconst 0, [], 0),
  (24, 2, .istore 5, [], 0),
  (26, 0, .nop, [17], 0),
  (26, 2, .iload 5, [], 0),
  (28, 1, .aload_n 0, [], 0),
  (29, 3, .getfield 13, [1, 7, 2, 102, 2, 905], 0),
  (32, 1, .iconst 0, [], 0),
  (33, 1, .iaload, [], 0),
  (34, 3, .if_icmp .ge 92, [71], 0),
  (37, 1, .aload_n 0, [], 0),
  (38, 2, .iload 5, [], 0),
  (40, 1, .iconst 0, [], 0),
  (41, 3, .invokevirtual 278, [143, 3, 0, 7, 1177], 0),
  (44, 2, .bipush 8, [], 8),
  (46, 2, .istore 6, [], 0),
  (48, 0, .nop, [30], 0),
  (48, 2, .iload 6, [], 0),
  (50, 1, .iconst 2, [], 2),
  (51, 3, .if_icmp .lt 69, [69], 0),
  (54, 1, .aload_n 0, [], 0),
  (55, 3, .getfield 118, [1, 7, 40, 154, 37, 943], 0),
  (58, 2, .bipush 6, [], 6),
  (60, 2, .iload 6, [], 0),
  (62, 1, .imul, [], 0),
  (63, 2, .iload 5, [], 0),
  (65, 1, .iadd, [], 0),
  (66, 1, .iaload, [], 0),
  (67, 3, .ifCond .ge 47, [67], 0),
  (70, 1, .iload_n 2, [], 0),
  (71, 3, .ifCond .lt 21, [53], 0),
  (74, 2, .iload 6, [], 0),
  (76, 1, .iload_n 2, [], 0),
  (77, 3, .if_icmp .lt 15, [53], 0),
  (80, 2, .iload 6, [], 0),
  (82, 1, .iload_n 2, [], 0),
  (83, 3, .if_icmp .ne 31, [67], 0),
  (86, 1, .iload_n 3, [], 0),
  (87, 2, .iload 5, [], 0),
  (89, 3, .if_icmp .ne 25, [67], 0),
  (92, 2, .iload 6, [], 0),
  (94, 1, .istore_n 2, [], 0),
  (95, 2, .iload 5, [], 0),
  (97, 1, .istore_n 3, [], 0),
  (98, 1, .aload_n 0, [], 0),
  (99, 3, .getfield 118, [1, 7, 40, 154, 37, 943], 0),
  (102, 2, .bipush 6, [], 6),
  (104, 2, .iload 6, [], 0),
  (106, 1, .imul, [], 0),
  (107, 2, .iload 5, [], 0),
  (109, 1, .iadd, [], 0),
  (110, 1, .iaload, [], 0),
  (111, 1, .ineg, [], 0),
  (112, 2, .istore 4, [], 0),
  (114, 3, .iinc 6 (-1), [], (-1)),
  (117, 3, .goto (-69), [29], 0),
  (120, 3, .iinc 5 1, [], 1),
  (123, 3, .goto (-97), [16], 0),
  (126, 1, .iload_n 2, [], 0),
  (127, 3, .ifCond .ge 8, [75], 0),
  (130, 2, .bipush (-4), [], (-4)),
  (132, 3, .goto 22, [85], 0),
  (135, 1, .iload_n 1, [], 0),
  (136, 3, .ifCond .ne 7, [79], 0),
  (139, 1, .iload_n 2, [], 0),
  (140, 3, .goto 14, [85], 0),
  (143, 1, .iload_n 1, [], 0),
  (144, 1, .iconst 1, [], 1),
  (145, 3, .if_icmp .ne 7, [84], 0),
  (148, 1, .iload_n 3, [], 0),
  (149, 3, .goto 5, [85], 0),
  (152, 2, .iload 4, [], 0),
  (154, 1, .ireturn, [0], 0)]
def cM_even : List am_W := [(0, 1, .iconst 0, [], 0),
  (1, 1, .istore_n 1, [], 0),
  (2, 0, .nop, [3], 0),
  (2, 1, .iload_n 1, [], 0),
  (3, 2, .bipush 6, [], 6),
  (5, 3, .if_icmp .ge 18, [13], 0),
  (8, 1, .aload_n 0, [], 0),
  (9, 3, .getfield 121, [1, 7, 41, 106, 38, 944], 0),
  (12, 1, .iload_n 1, [], 0),
  (13, 3, .ldc_w 272, [1171], 1000000),
  (16, 1, .iastore, [], 0),
  (17, 3, .iinc 1 1, [], 1),
  (20, 3, .goto (-18), [2], 0),
  (23, 1, .iconst 1, [], 1),
  (24, 1, .istore_n 1, [], 0),
  (25, 1, .iconst 0, [], 0),
  (26, 1, .istore_n 2, [], 0),
  (27, 0, .nop, [18], 0),
  (27, 1, .iload_n 2, [], 0),
  (28, 1, .aload_n 0, [], 0),
  (29, 3, .getfield 13, [1, 7, 2, 102, 2, 905], 0),
  (32, 1, .iconst 0, [], 0),
  (33, 1, .iaload, [], 0),
  (34, 3, .if_icmp .ge 196, [126], 0),
  (37, 1, .aload_n 0, [], 0),
  (38, 3, .getfield 121, [1, 7, 41, 106, 38, 944], 0),
  (41, 1, .iload_n 2, [], 0),
  (42, 1, .iaload, [], 0),
  (43, 3, .ldc_w 272, [1171], 1000000),
  (46, 3, .if_icmp .ne 178, [124], 0),
  (49, 1, .aload_n 0, [], 0),
  (50, 3, .getfield 121, [1, 7, 41, 106, 38, 944], 0),
  (53, 1, .iload_n 2, [], 0),
  (54, 1, .iconst 0, [], 0),
  (55, 1, .iastore, [], 0),
  (56, 1, .iconst 0, [], 0),
  (57, 1, .istore_n 3, [], 0),
  (58, 0, .nop, [38], 0),
  (58, 1, .iload_n 3, [], 0),
  (59, 2, .bipush 6, [], 6),
  (61, 3, .if_icmp .ge 163, [124], 0),
  (64, 1, .iconst 0, [], 0),
  (65, 2, .istore 4, [], 0),
  (67, 0, .nop, [44], 0),
  (67, 2, .iload 4, [], 0),
  (69, 1, .aload_n 0, [], 0),
  (70, 3, .getfield 25, [1, 7, 6, 102, 6, 909], 0),
  (73, 1, .iconst 0, [], 0),
  (74, 1, .iaload, [], 0),
  (75, 3, .if_icmp .ge 143, [122], 0),
  (78, 1, .aload_n 0, [], 0),
  (79, 3, .getfield 28, [1, 7, 7, 116, 7, 910], 0),
  (82, 2, .iload 4, [], 0),
  (84, 1, .iaload, [], 0),
  (85, 2, .istore 5, [], 0),
  (87, 1, .aload_n 0, [], 0),
  (88, 3, .getfield 31, [1, 7, 8, 116, 8, 911], 0),
  (91, 2, .iload 4, [], 0),
  (93, 1, .iaload, [], 0),
  (94, 2, .istore 6, [], 0),
  (96, 1, .aload_n 0, [], 0),
  (97, 3, .getfield 121, [1, 7, 41, 106, 38, 944], 0),
  (100, 2, .iload 6, [], 0),
  (102, 1, .aload_n 0, [], 0),
  (103, 3, .getfield 121, [1, 7, 41, 106, 38, 944], 0),
  (106, 2, .iload 5, [], 0),
  (108, 1, .iaload, [], 0),
  (109, 3, .ldc_w 272, [1171], 1000000),
  (112, 3, .if_icmp .ge 34, [85], 0),
  (115, 1, .aload_n 0, [], 0),
  (116, 3, .getfield 121, [1, 7, 41, 106, 38, 944], 0),
  (119, 2, .iload 6, [], 0),
  (121, 1, .iaload, [], 0),
  (122, 3, .ldc_w 272, [1171], 1000000),
  (125, 3, .if_icmp .ne 21, [85], 0),
  (128, 1, .aload_n 0, [], 0),
  (129, 3, .getfield 121, [1, 7, 41, 106, 38, 944], 0),
  (132, 2, .iload 5, [], 0),
  (134, 1, .iaload, [], 0),
  (135, 1, .aload_n 0, [], 0),
  (136, 3, .getfield 34, [1, 7, 9, 116, 9, 912], 0),
  (139, 2, .iload 4, [], 0),
  (141, 1, .iaload, [], 0),
  (142, 1, .iadd, [], 0),
  (143, 3, .goto 10, [89], 0),
  (146, 1, .aload_n 0, [], 0),
  (147, 3, .getfield 121, [1, 7, 41, 106, 38, 944], 0),
  (150, 2, .iload 6, [], 0),
  (152, 1, .iaload, [], 0),
  (153, 1, .iastore, [], 0),
  (154, 1, .aload_n 0, [], 0),
  (155, 3, .getfield 121, [1, 7, 41, 106, 38, 944], 0),
  (158, 2, .iload 5, [], 0),
  (160, 1, .aload_n 0, [], 0),
  (161, 3, .getfield 121, [1, 7, 41, 106, 38, 944], 0),
  (164, 2, .iload 6, [], 0),
  (166, 1, .iaload, [], 0),
  (167, 3, .ldc_w 272, [1171], 1000000),
  (170, 3, .if_icmp .ge 34, [115], 0),
  (173, 1, .aload_n 0, [], 0),
  (174, 3, .getfield 121, [1, 7, 41, 106, 38, 944], 0),
  (177, 2, .iload 5, [], 0),
  (179, 1, .iaload, [], 0),
  (180, 3, .ldc_w 272, [1171], 1000000),
  (183, 3, .if_icmp .ne 21, [115], 0),
  (186, 1, .aload_n 0, [], 0),
  (187, 3, .getfield 121, [1, 7, 41, 106, 38, 944], 0),
  (190, 2, .iload 6, [], 0),
  (192, 1, .iaload, [], 0),
  (193, 1, .aload_n 0, [], 0),
  (194, 3, .getfield 34, [1, 7, 9, 116, 9, 912], 0),
  (197, 2, .iload 4, [], 0),
  (199, 1, .iaload, [], 0),
  (200, 1, .isub, [], 0),
  (201, 3, .goto 10, [119], 0),
  (204, 1, .aload_n 0, [], 0),
  (205, 3, .getfield 121, [1, 7, 41, 106, 38, 944], 0),
  (208, 2, .iload 5, [], 0),
  (210, 1, .iaload, [], 0),
  (211, 1, .iastore, [], 0),
  (212, 3, .iinc 4 1, [], 1),
  (215, 3, .goto (-148), [43], 0),
  (218, 3, .iinc 3 1, [], 1),
  (221, 3, .goto (-163), [37], 0),
  (224, 3, .iinc 2 1, [], 1),
  (227, 3, .goto (-200), [17], 0),
  (230, 1, .iconst 0, [], 0),
  (231, 1, .istore_n 2, [], 0),
  (232, 0, .nop, [129], 0),
  (232, 1, .iload_n 2, [], 0),
  (233, 1, .aload_n 0, [], 0),
  (234, 3, .getfield 25, [1, 7, 6, 102, 6, 909], 0),
  (237, 1, .iconst 0, [], 0),
  (238, 1, .iaload, [], 0),
  (239, 3, .if_icmp .ge 51, [163], 0),
  (242, 1, .iload_n 1, [], 0),
  (243, 3, .ifCond .eq 39, [159], 0),
  (246, 1, .aload_n 0, [], 0),
  (247, 3, .getfield 121, [1, 7, 41, 106, 38, 944], 0),
  (250, 1, .aload_n 0, [], 0),
  (251, 3, .getfield 31, [1, 7, 8, 116, 8, 911], 0),
  (254, 1, .iload_n 2, [], 0),
  (255, 1, .iaload, [], 0),
  (256, 1, .iaload, [], 0),
  (257, 1, .aload_n 0, [], 0),
  (258, 3, .getfield 121, [1, 7, 41, 106, 38, 944], 0),
  (261, 1, .aload_n 0, [], 0),
  (262, 3, .getfield 28, [1, 7, 7, 116, 7, 910], 0),
  (265, 1, .iload_n 2, [], 0),
  (266, 1, .iaload, [], 0),
  (267, 1, .iaload, [], 0),
  (268, 1, .isub, [], 0),
  (269, 1, .aload_n 0, [], 0),
  (270, 3, .getfield 34, [1, 7, 9, 116, 9, 912], 0),
  (273, 1, .iload_n 2, [], 0),
  (274, 1, .iaload, [], 0),
  (275, 3, .if_icmp .ne 7, [159], 0),
  (278, 1, .iconst 1, [], 1),
  (279, 3, .goto 4, [160], 0),
  (282, 1, .iconst 0, [], 0),
  (283, 1, .istore_n 1, [], 0),
  (284, 3, .iinc 2 1, [], 1),
  (287, 3, .goto (-55), [128], 0),
  (290, 1, .iload_n 1, [], 0),
  (291, 3, .ifCond .eq 7, [167], 0),
  (294, 1, .iconst 1, [], 1),
  (295, 3, .goto 4, [168], 0),
  (298, 1, .iconst 0, [], 0),
  (299, 1, .ireturn, [0], 0)]
def cM_layStays : List am_W := [(0, 1, .iconst 0, [], 0),
  (1, 1, .istore_n 2, [], 0),
  (2, 0, .nop, [3], 0),
  (2, 1, .iload_n 2, [], 0),
  (3, 2, .bipush 64, [], 64),
  (5, 3, .if_icmp .ge 124, [77], 0),
  (8, 1, .iconst 0, [], 0),
  (9, 1, .istore_n 3, [], 0),
  (10, 0, .nop, [9], 0),
  (10, 1, .iload_n 3, [], 0),
  (11, 1, .aload_n 0, [], 0),
  (12, 3, .getfield 13, [1, 7, 2, 102, 2, 905], 0),
  (15, 1, .iconst 0, [], 0),
  (16, 1, .iaload, [], 0),
  (17, 3, .if_icmp .ge 106, [75], 0),
  (20, 1, .iload_n 1, [], 0),
  (21, 1, .iload_n 3, [], 0),
  (22, 3, .invokestatic 281, [96, 2, 1, 0, 1201], 0),
  (25, 3, .ifCond .eq 32, [35], 0),
  (28, 1, .iload_n 2, [], 0),
  (29, 1, .iload_n 3, [], 0),
  (30, 3, .invokestatic 281, [96, 2, 1, 0, 1201], 0),
  (33, 3, .ifCond .ne 24, [35], 0),
  (36, 1, .aload_n 0, [], 0),
  (37, 3, .getfield 124, [1, 7, 42, 484, 39, 945], 0),
  (40, 2, .bipush 6, [], 6),
  (42, 1, .iload_n 2, [], 0),
  (43, 1, .imul, [], 0),
  (44, 1, .iload_n 3, [], 0),
  (45, 1, .iadd, [], 0),
  (46, 1, .iaload, [], 0),
  (47, 3, .ldc_w 272, [1171], 1000000),
  (50, 3, .if_icmp .ge 7, [35], 0),
  (53, 1, .iconst 1, [], 1),
  (54, 3, .goto 4, [36], 0),
  (57, 1, .iconst 0, [], 0),
  (58, 2, .istore 4, [], 0),
  (60, 2, .bipush 6, [], 6),
  (62, 1, .iload_n 2, [], 0),
  (63, 1, .iconst 1, [], 1),
  (64, 1, .iload_n 3, [], 0),
  (65, 1, .ishl, [], 0),
  (66, 1, .ior, [], 0),
  (67, 1, .imul, [], 0),
  (68, 1, .iload_n 3, [], 0),
  (69, 1, .iadd, [], 0),
  (70, 2, .istore 5, [], 0),
  (72, 1, .aload_n 0, [], 0),
  (73, 3, .getfield 124, [1, 7, 42, 484, 39, 945], 0),
  (76, 2, .bipush 6, [], 6),
  (78, 1, .iload_n 2, [], 0),
  (79, 1, .imul, [], 0),
  (80, 1, .iload_n 3, [], 0),
  (81, 1, .iadd, [], 0),
  (82, 1, .iaload, [], 0),
  (83, 1, .aload_n 0, [], 0),
  (84, 1, .iload_n 3, [], 0),
  (85, 3, .invokevirtual 193, [112, 2, 1, 7, 871], 0),
  (88, 1, .iadd, [], 0),
  (89, 2, .istore 6, [], 0),
  (91, 2, .iload 4, [], 0),
  (93, 3, .ifCond .eq 24, [73], 0),
  (96, 2, .iload 6, [], 0),
  (98, 1, .aload_n 0, [], 0),
  (99, 3, .getfield 124, [1, 7, 42, 484, 39, 945], 0),
  (102, 2, .iload 5, [], 0),
  (104, 1, .iaload, [], 0),
  (105, 3, .if_icmp .ge 12, [73], 0),
  (108, 1, .aload_n 0, [], 0),
  (109, 3, .getfield 124, [1, 7, 42, 484, 39, 945], 0),
  (112, 2, .iload 5, [], 0),
  (114, 2, .iload 6, [], 0),
  (116, 1, .iastore, [], 0),
  (117, 3, .iinc 3 1, [], 1),
  (120, 3, .goto (-110), [8], 0),
  (123, 3, .iinc 2 1, [], 1),
  (126, 3, .goto (-124), [2], 0),
  (129, 1, .return_, [], 0)]
def cM_round : List am_W := [(0, 1, .aload_n 0, [], 0),
  (1, 1, .iload_n 1, [], 0),
  (2, 3, .invokevirtual 248, [110, 2, 1, 7, 1113], 0),
  (5, 3, .ifCond .eq 33, [24], 0),
  (8, 1, .iload_n 2, [], 0),
  (9, 1, .i2l, [], 0),
  (10, 1, .lconst 0, [], 0),
  (11, 1, .iconst 1, [], 1),
  (12, 1, .aload_n 0, [], 0),
  (13, 3, .getfield 13, [1, 7, 2, 102, 2, 905], 0),
  (16, 1, .iconst 0, [], 0),
  (17, 1, .iaload, [], 0),
  (18, 1, .ishl, [], 0),
  (19, 1, .iconst 1, [], 1),
  (20, 1, .isub, [], 0),
  (21, 1, .i2l, [], 0),
  (22, 3, .invokestatic 152, [95, 3, 1, 0, 1045], 0),
  (25, 3, .ifCond .eq 13, [24], 0),
  (28, 1, .iload_n 3, [], 0),
  (29, 1, .i2l, [], 0),
  (30, 1, .lconst 0, [], 0),
  (31, 1, .lconst 1, [], 1),
  (32, 3, .invokestatic 152, [95, 3, 1, 0, 1045], 0),
  (35, 3, .ifCond .ne 5, [26], 0),
  (38, 1, .iconst (-1), [], (-1)),
  (39, 1, .ireturn, [0], 0),
  (40, 1, .iconst 0, [], 0),
  (41, 2, .istore 4, [], 0),
  (43, 0, .nop, [29], 0),
  (43, 2, .iload 4, [], 0),
  (45, 3, .sipush 384, [], 384),
  (48, 3, .if_icmp .ge 19, [39], 0),
  (51, 1, .aload_n 0, [], 0),
  (52, 3, .getfield 124, [1, 7, 42, 484, 39, 945], 0),
  (55, 2, .iload 4, [], 0),
  (57, 3, .ldc_w 272, [1171], 1000000),
  (60, 1, .iastore, [], 0),
  (61, 3, .iinc 4 1, [], 1),
  (64, 3, .goto (-21), [28], 0),
  (67, 1, .aload_n 0, [], 0),
  (68, 3, .getfield 124, [1, 7, 42, 484, 39, 945], 0),
  (71, 1, .aload_n 0, [], 0),
  (72, 3, .getfield 85, [1, 7, 29, 104, 26, 932], 0),
  (75, 1, .iload_n 1, [], 0),
  (76, 1, .iaload, [], 0),
  (77, 1, .aload_n 0, [], 0),
  (78, 3, .getfield 88, [1, 7, 30, 104, 27, 933], 0),
  (81, 1, .iload_n 1, [], 0),
  (82, 1, .iaload, [], 0),
  (83, 1, .iastore, [], 0),
  (84, 3, .ldc_w 272, [1171], 1000000),
  (87, 2, .istore 4, [], 0),
  (89, 2, .bipush (-4), [], (-4)),
  (91, 2, .istore 5, [], 0),
  (93, 1, .iconst 0, [], 0),
  (94, 2, .istore 6, [], 0),
  (96, 0, .nop, [57], 0),
  (96, 2, .iload 6, [], 0),
  (98, 2, .bipush 10, [], 10),
  (100, 3, .if_icmp .gt 286, [204], 0),
  (103, 1, .aload_n 0, [], 0),
  (104, 1, .iload_n 2, [], 0),
  (105, 3, .invokevirtual 284, [147, 2, 0, 7, 1197], 0),
  (108, 1, .iconst 0, [], 0),
  (109, 2, .istore 7, [], 0),
  (111, 0, .nop, [66], 0),
  (111, 2, .iload 7, [], 0),
  (113, 1, .aload_n 0, [], 0),
  (114, 3, .getfield 13, [1, 7, 2, 102, 2, 905], 0),
  (117, 1, .iconst 0, [], 0),
  (118, 1, .iaload, [], 0),
  (119, 3, .if_icmp .ge 61, [99], 0),
  (122, 1, .aload_n 0, [], 0),
  (123, 3, .getfield 124, [1, 7, 42, 484, 39, 945], 0),
  (126, 2, .bipush 6, [], 6),
  (128, 1, .iload_n 2, [], 0),
  (129, 1, .imul, [], 0),
  (130, 2, .iload 7, [], 0),
  (132, 1, .iadd, [], 0),
  (133, 1, .iaload, [], 0),
  (134, 2, .istore 8, [], 0),
  (136, 2, .iload 8, [], 0),
  (138, 2, .iload 4, [], 0),
  (140, 3, .if_icmp .ge 8, [86], 0),
  (143, 2, .iload 8, [], 0),
  (145, 3, .goto 5, [87], 0),
  (148, 2, .iload 4, [], 0),
  (150, 2, .istore 4, [], 0),
  (152, 2, .iload 8, [], 0),
  (154, 3, .ldc_w 272, [1171], 1000000),
  (157, 3, .if_icmp .ge 13, [95], 0),
  (160, 2, .iload 5, [], 0),
  (162, 3, .ifCond .ge 8, [95], 0),
  (165, 2, .iload 6, [], 0),
  (167, 3, .goto 5, [96], 0),
  (170, 2, .iload 5, [], 0),
  (172, 2, .istore 5, [], 0),
  (174, 3, .iinc 7 1, [], 1),
  (177, 3, .goto (-66), [65], 0),
  (180, 1, .iconst 0, [], 0),
  (181, 2, .istore 7, [], 0),
  (183, 0, .nop, [102], 0),
  (183, 2, .iload 7, [], 0),
  (185, 3, .sipush 384, [], 384),
  (188, 3, .if_icmp .ge 19, [112], 0),
  (191, 1, .aload_n 0, [], 0),
  (192, 3, .getfield 127, [1, 7, 43, 484, 40, 946], 0),
  (195, 2, .iload 7, [], 0),
  (197, 3, .ldc_w 272, [1171], 1000000),
  (200, 1, .iastore, [], 0),
  (201, 3, .iinc 7 1, [], 1),
  (204, 3, .goto (-21), [101], 0),
  (207, 1, .iconst 0, [], 0),
  (208, 2, .istore 7, [], 0),
  (210, 0, .nop, [115], 0),
  (210, 2, .iload 7, [], 0),
  (212, 1, .aload_n 0, [], 0),
  (213, 3, .getfield 25, [1, 7, 6, 102, 6, 909], 0),
  (216, 1, .iconst 0, [], 0),
  (217, 1, .iaload, [], 0),
  (218, 3, .if_icmp .ge 131, [186], 0),
  (221, 1, .iconst 0, [], 0),
  (222, 2, .istore 8, [], 0),
  (224, 0, .nop, [124], 0),
  (224, 2, .iload 8, [], 0),
  (226, 3, .sipush 384, [], 384),
  (229, 3, .if_icmp .ge 114, [184], 0),
  (232, 2, .iload 8, [], 0),
  (234, 2, .bipush 6, [], 6),
  (236, 1, .irem, [], 0),
  (237, 2, .istore 9, [], 0),
  (239, 1, .aload_n 0, [], 0),
  (240, 3, .getfield 124, [1, 7, 42, 484, 39, 945], 0),
  (243, 2, .iload 8, [], 0),
  (245, 1, .iaload, [], 0),
  (246, 3, .ldc_w 272, [1171], 1000000),
  (249, 3, .if_icmp .ge 88, [182], 0),
  (252, 2, .iload 8, [], 0),
  (254, 2, .bipush 6, [], 6),
  (256, 1, .idiv, [], 0),
  (257, 1, .iload_n 2, [], 0),
  (258, 3, .if_icmp .eq 79, [182], 0),
  (261, 1, .aload_n 0, [], 0),
  (262, 2, .iload 7, [], 0),
  (264, 2, .iload 9, [], 0),
  (266, 3, .invokevirtual 196, [115, 3, 1, 7, 879], 0),
  (269, 3, .ifCond .eq 68, [182], 0),
  (272, 2, .iload 8, [], 0),
  (274, 2, .iload 9, [], 0),
  (276, 1, .isub, [], 0),
  (277, 1, .aload_n 0, [], 0),
  (278, 2, .iload 7, [], 0),
  (280, 2, .iload 9, [], 0),
  (282, 3, .invokevirtual 208, [117, 3, 1, 7, 887], 0),
  (285, 1, .iadd, [], 0),
  (286, 2, .istore 10, [], 0),
  (288, 1, .aload_n 0, [], 0),
  (289, 3, .getfield 124, [1, 7, 42, 484, 39, 945], 0),
  (292, 2, .iload 8, [], 0),
  (294, 1, .iaload, [], 0),
  (295, 1, .aload_n 0, [], 0),
  (296, 2, .iload 7, [], 0),
  (298, 2, .iload 9, [], 0),
  (300, 3, .invokevirtual 273, [142, 3, 1, 7, 1181], 0),
  (303, 1, .iadd, [], 0),
  (304, 2, .istore 11, [], 0),
  (306, 1, .aload_n 0, [], 0),
  (307, 3, .getfield 127, [1, 7, 43, 484, 40, 946], 0),
  (310, 2, .iload 10, [], 0),
  (312, 2, .iload 11, [], 0),
  (314, 1, .aload_n 0, [], 0),
  (315, 3, .getfield 127, [1, 7, 43, 484, 40, 946], 0),
  (318, 2, .iload 10, [], 0),
  (320, 1, .iaload, [], 0),
  (321, 3, .if_icmp .ge 8, [177], 0),
  (324, 2, .iload 11, [], 0),
  (326, 3, .goto 10, [181], 0),
  (329, 1, .aload_n 0, [], 0),
  (330, 3, .getfield 127, [1, 7, 43, 484, 40, 946], 0),
  (333, 2, .iload 10, [], 0),
  (335, 1, .iaload, [], 0),
  (336, 1, .iastore, [], 0),
  (337, 3, .iinc 8 1, [], 1),
  (340, 3, .goto (-116), [123], 0),
  (343, 3, .iinc 7 1, [], 1),
  (346, 3, .goto (-136), [114], 0),
  (349, 1, .iconst 0, [], 0),
  (350, 2, .istore 7, [], 0),
  (352, 0, .nop, [189], 0),
  (352, 2, .iload 7, [], 0),
  (354, 3, .sipush 384, [], 384),
  (357, 3, .if_icmp .ge 23, [202], 0),
  (360, 1, .aload_n 0, [], 0),
  (361, 3, .getfield 124, [1, 7, 42, 484, 39, 945], 0),
  (364, 2, .iload 7, [], 0),
  (366, 1, .aload_n 0, [], 0),
  (367, 3, .getfield 127, [1, 7, 43, 484, 40, 946], 0),
  (370, 2, .iload 7, [], 0),
  (372, 1, .iaload, [], 0),
  (373, 1, .iastore, [], 0),
  (374, 3, .iinc 7 1, [], 1),
  (377, 3, .goto (-25), [188], 0),
  (380, 3, .iinc 6 1, [], 1),
  (383, 3, .goto (-287), [56], 0),
  (386, 2, .iload 5, [], 0),
  (388, 3, .ifCond .ge 8, [208], 0),
  (391, 2, .bipush (-4), [], (-4)),
  (393, 3, .goto 17, [215], 0),
  (396, 1, .iload_n 3, [], 0),
  (397, 3, .ifCond .ne 11, [214], 0),
  (400, 2, .iload 4, [], 0),
  (402, 2, .ldc 251, [1117], 100000),
  (404, 1, .iadd, [], 0),
  (405, 3, .goto 5, [215], 0),
  (408, 2, .iload 5, [], 0),
  (410, 1, .ireturn, [0], 0)]
def cM_hour : List am_W := [(0, 1, .aload_n 0, [], 0),
  (1, 1, .iload_n 1, [], 0),
  (2, 3, .invokevirtual 248, [110, 2, 1, 7, 1113], 0),
  (5, 3, .ifCond .eq 27, [16], 0),
  (8, 1, .iload_n 2, [], 0),
  (9, 1, .i2l, [], 0),
  (10, 1, .lconst 0, [], 0),
  (11, 3, .ldc2_w 287, [1208], 23),
  (14, 3, .invokestatic 152, [95, 3, 1, 0, 1045], 0),
  (17, 3, .ifCond .eq 15, [16], 0),
  (20, 1, .iload_n 3, [], 0),
  (21, 1, .i2l, [], 0),
  (22, 1, .lconst 0, [], 0),
  (23, 3, .ldc2_w 171, [1074], 2),
  (26, 3, .invokestatic 152, [95, 3, 1, 0, 1045], 0),
  (29, 3, .ifCond .ne 5, [18], 0),
  (32, 1, .iconst (-1), [], (-1)),
  (33, 1, .ireturn, [0], 0),
  (34, 1, .iload_n 3, [], 0),
  (35, 3, .ifCond .ne 8, [22], 0),
  (38, 2, .bipush 12, [], 12),
  (40, 3, .goto 13, [28], 0),
  (43, 1, .aload_n 0, [], 0),
  (44, 1, .aload_n 0, [], 0),
  (45, 3, .getfield 85, [1, 7, 29, 104, 26, 932], 0),
  (48, 1, .iload_n 1, [], 0),
  (49, 1, .iaload, [], 0),
  (50, 3, .invokevirtual 193, [112, 2, 1, 7, 871], 0),
  (53, 2, .istore 4, [], 0),
  (55, 1, .iload_n 3, [], 0),
  (56, 3, .ifCond .ne 10, [35], 0),
  (59, 2, .bipush 12, [], 12),
  (61, 1, .iload_n 2, [], 0),
  (62, 1, .imul, [], 0),
  (63, 3, .goto 50, [65], 0),
  (66, 1, .iload_n 3, [], 0),
  (67, 1, .iconst 1, [], 1),
  (68, 3, .if_icmp .ne 22, [50], 0),
  (71, 1, .iload_n 2, [], 0),
  (72, 1, .aload_n 0, [], 0),
  (73, 3, .getfield 22, [1, 7, 5, 112, 5, 908], 0),
  (76, 1, .aload_n 0, [], 0),
  (77, 3, .getfield 85, [1, 7, 29, 104, 26, 932], 0),
  (80, 1, .iload_n 1, [], 0),
  (81, 1, .iaload, [], 0),
  (82, 1, .iaload, [], 0),
  (83, 1, .isub, [], 0),
  (84, 2, .iload 4, [], 0),
  (86, 1, .imul, [], 0),
  (87, 3, .goto 26, [65], 0),
  (90, 1, .aload_n 0, [], 0),
  (91, 3, .getfield 88, [1, 7, 30, 104, 27, 933], 0),
  (94, 1, .iload_n 1, [], 0),
  (95, 1, .iaload, [], 0),
  (96, 1, .iload_n 2, [], 0),
  (97, 1, .aload_n 0, [], 0),
  (98, 3, .getfield 91, [1, 7, 31, 104, 28, 934], 0),
  (101, 1, .iload_n 1, [], 0),
  (102, 1, .iaload, [], 0),
  (103, 1, .isub, [], 0),
  (104, 2, .bipush 24, [], 24),
  (106, 3, .invokestatic 239, [126, 2, 1, 0, 1095], 0),
  (109, 2, .iload 4, [], 0),
  (111, 1, .imul, [], 0),
  (112, 1, .iadd, [], 0),
  (113, 2, .istore 5, [], 0),
  (115, 1, .aload_n 0, [], 0),
  (116, 3, .getfield 88, [1, 7, 30, 104, 27, 933], 0),
  (119, 1, .iload_n 1, [], 0),
  (120, 1, .iaload, [], 0),
  (121, 2, .iload 5, [], 0),
  (123, 1, .aload_n 0, [], 0),
  (124, 3, .getfield 88, [1, 7, 30, 104, 27, 933], 0),
  (127, 1, .iload_n 1, [], 0),
  (128, 1, .iaload, [], 0),
  (129, 1, .isub, [], 0),
  (130, 2, .bipush 24, [], 24),
  (132, 2, .iload 4, [], 0),
  (134, 1, .imul, [], 0),
  (135, 3, .invokestatic 239, [126, 2, 1, 0, 1095], 0),
  (138, 1, .iadd, [], 0),
  (139, 2, .ldc 251, [1117], 100000),
  (141, 1, .iadd, [], 0),
  (142, 1, .ireturn, [0], 0)]
def cM_agreed : List am_W := [(0, 1, .aload_n 0, [], 0),
  (1, 1, .iload_n 1, [], 0),
  (2, 3, .invokevirtual 248, [110, 2, 1, 7, 1113], 0),
  (5, 3, .ifCond .eq 28, [17], 0),
  (8, 1, .aload_n 0, [], 0),
  (9, 1, .iload_n 2, [], 0),
  (10, 3, .invokevirtual 248, [110, 2, 1, 7, 1113], 0),
  (13, 3, .ifCond .eq 20, [17], 0),
  (16, 1, .iload_n 1, [], 0),
  (17, 1, .iload_n 2, [], 0),
  (18, 3, .if_icmp .eq 15, [17], 0),
  (21, 1, .iload_n 3, [], 0),
  (22, 1, .i2l, [], 0),
  (23, 1, .lconst 0, [], 0),
  (24, 3, .ldc2_w 287, [1208], 23),
  (27, 3, .invokestatic 152, [95, 3, 1, 0, 1045], 0),
  (30, 3, .ifCond .ne 5, [19], 0),
  (33, 1, .iconst (-1), [], (-1)),
  (34, 1, .ireturn, [0], 0),
  (35, 2, .bipush 24, [], 24),
  (37, 1, .aload_n 0, [], 0),
  (38, 1, .aload_n 0, [], 0),
  (39, 3, .getfield 85, [1, 7, 29, 104, 26, 932], 0),
  (42, 1, .iload_n 1, [], 0),
  (43, 1, .iaload, [], 0),
  (44, 3, .invokevirtual 193, [112, 2, 1, 7, 871], 0),
  (47, 1, .imul, [], 0),
  (48, 2, .istore 4, [], 0),
  (50, 2, .bipush 24, [], 24),
  (52, 1, .aload_n 0, [], 0),
  (53, 1, .aload_n 0, [], 0),
  (54, 3, .getfield 85, [1, 7, 29, 104, 26, 932], 0),
  (57, 1, .iload_n 2, [], 0),
  (58, 1, .iaload, [], 0),
  (59, 3, .invokevirtual 193, [112, 2, 1, 7, 871], 0),
  (62, 1, .imul, [], 0),
  (63, 2, .istore 5, [], 0),
  (65, 1, .aload_n 0, [], 0),
  (66, 3, .getfield 88, [1, 7, 30, 104, 27, 933], 0),
  (69, 1, .iload_n 1, [], 0),
  (70, 1, .iaload, [], 0),
  (71, 1, .iload_n 3, [], 0),
  (72, 1, .aload_n 0, [], 0),
  (73, 3, .getfield 91, [1, 7, 31, 104, 28, 934], 0),
  (76, 1, .iload_n 1, [], 0),
  (77, 1, .iaload, [], 0),
  (78, 1, .isub, [], 0),
  (79, 2, .bipush 24, [], 24),
  (81, 3, .invokestatic 239, [126, 2, 1, 0, 1095], 0),
  (84, 1, .aload_n 0, [], 0),
  (85, 1, .aload_n 0, [], 0),
  (86, 3, .getfield 85, [1, 7, 29, 104, 26, 932], 0),
  (89, 1, .iload_n 1, [], 0),
  (90, 1, .iaload, [], 0),
  (91, 3, .invokevirtual 193, [112, 2, 1, 7, 871], 0),
  (94, 1, .imul, [], 0),
  (95, 1, .iadd, [], 0),
  (96, 2, .istore 6, [], 0),
  (98, 1, .aload_n 0, [], 0),
  (99, 3, .getfield 88, [1, 7, 30, 104, 27, 933], 0),
  (102, 1, .iload_n 2, [], 0),
  (103, 1, .iaload, [], 0),
  (104, 1, .iload_n 3, [], 0),
  (105, 1, .aload_n 0, [], 0),
  (106, 3, .getfield 91, [1, 7, 31, 104, 28, 934], 0),
  (109, 1, .iload_n 2, [], 0),
  (110, 1, .iaload, [], 0),
  (111, 1, .isub, [], 0),
  (112, 2, .bipush 24, [], 24),
  (114, 3, .invokestatic 239, [126, 2, 1, 0, 1095], 0),
  (117, 1, .aload_n 0, [], 0),
  (118, 1, .aload_n 0, [], 0),
  (119, 3, .getfield 85, [1, 7, 29, 104, 26, 932], 0),
  (122, 1, .iload_n 2, [], 0),
  (123, 1, .iaload, [], 0),
  (124, 3, .invokevirtual 193, [112, 2, 1, 7, 871], 0),
  (127, 1, .imul, [], 0),
  (128, 1, .iadd, [], 0),
  (129, 2, .istore 7, [], 0),
  (131, 2, .iload 6, [], 0),
  (133, 2, .istore 8, [], 0),
  (135, 0, .nop, [82], 0),
  (135, 2, .iload 8, [], 0),
  (137, 3, .sipush 9999, [], 9999),
  (140, 3, .if_icmp .gt 37, [103], 0),
  (143, 2, .iload 8, [], 0),
  (145, 2, .iload 7, [], 0),
  (147, 3, .if_icmp .lt 20, [98], 0),
  (150, 2, .iload 8, [], 0),
  (152, 2, .iload 7, [], 0),
  (154, 1, .isub, [], 0),
  (155, 2, .iload 5, [], 0),
  (157, 1, .irem, [], 0),
  (158, 3, .ifCond .ne 9, [98], 0),
  (161, 2, .iload 8, [], 0),
  (163, 2, .ldc 251, [1117], 100000),
  (165, 1, .iadd, [], 0),
  (166, 1, .ireturn, [0], 0),
  (167, 2, .iload 8, [], 0),
  (169, 2, .iload 4, [], 0),
  (171, 1, .iadd, [], 0),
  (172, 2, .istore 8, [], 0),
  (174, 3, .goto (-39), [81], 0),
  (177, 2, .bipush (-4), [], (-4)),
  (179, 1, .ireturn, [0], 0)]
def cM_shelf : List am_W := [(0, 1, .aload_n 0, [], 0),
  (1, 1, .iload_n 1, [], 0),
  (2, 3, .invokevirtual 255, [111, 2, 1, 7, 1126], 0),
  (5, 3, .ifCond .eq 15, [10], 0),
  (8, 1, .iload_n 2, [], 0),
  (9, 1, .i2l, [], 0),
  (10, 1, .lconst 1, [], 1),
  (11, 3, .ldc2_w 289, [1217], 99),
  (14, 3, .invokestatic 152, [95, 3, 1, 0, 1045], 0),
  (17, 3, .ifCond .ne 5, [12], 0),
  (20, 1, .iconst (-1), [], (-1)),
  (21, 1, .ireturn, [0], 0),
  (22, 1, .iconst 0, [], 0),
  (23, 1, .istore_n 3, [], 0),
  (24, 2, .bipush (-4), [], (-4)),
  (26, 2, .istore 4, [], 0),
  (28, 1, .iconst 0, [], 0),
  (29, 2, .istore 5, [], 0),
  (31, 0, .nop, [19], 0),
  (31, 2, .iload 5, [], 0),
  (33, 1, .aload_n 0, [], 0),
  (34, 3, .getfield 13, [1, 7, 2, 102, 2, 905], 0),
  (37, 1, .iconst 0, [], 0),
  (38, 1, .iaload, [], 0),
  (39, 3, .if_icmp .ge 63, [56], 0),
  (42, 1, .aload_n 0, [], 0),
  (43, 1, .iload_n 1, [], 0),
  (44, 1, .aload_n 0, [], 0),
  (45, 3, .getfield 103, [1, 7, 35, 105, 32, 938], 0),
  (48, 1, .iload_n 1, [], 0),
  (49, 1, .iaload, [], 0),
  (50, 1, .aload_n 0, [], 0),
  (51, 2, .iload 5, [], 0),
  (53, 2, .bipush 12, [], 12),
  (55, 1, .iload_n 2, [], 0),
  (56, 1, .imul, [], 0),
  (57, 3, .invokevirtual 214, [113, 3, 1, 7, 895], 0),
  (60, 1, .iadd, [], 0),
  (61, 3, .invokevirtual 260, [132, 3, 1, 7, 1135], 0),
  (64, 2, .istore 6, [], 0),
  (66, 2, .iload 6, [], 0),
  (68, 2, .iload 4, [], 0),
  (70, 3, .if_icmp .le 8, [45], 0),
  (73, 2, .iload 5, [], 0),
  (75, 3, .goto 4, [46], 0),
  (78, 1, .iload_n 3, [], 0),
  (79, 1, .istore_n 3, [], 0),
  (80, 2, .iload 6, [], 0),
  (82, 2, .iload 4, [], 0),
  (84, 3, .if_icmp .le 8, [52], 0),
  (87, 2, .iload 6, [], 0),
  (89, 3, .goto 5, [53], 0),
  (92, 2, .iload 4, [], 0),
  (94, 2, .istore 4, [], 0),
  (96, 3, .iinc 5 1, [], 1),
  (99, 3, .goto (-68), [18], 0),
  (102, 1, .iload_n 3, [], 0),
  (103, 1, .ireturn, [0], 0)]
def cM_seen : List am_W := [(0, 1, .aload_n 0, [], 0),
  (1, 1, .iload_n 1, [], 0),
  (2, 3, .invokevirtual 230, [108, 2, 1, 7, 1084], 0),
  (5, 3, .ifCond .eq 27, [16], 0),
  (8, 1, .iload_n 2, [], 0),
  (9, 1, .i2l, [], 0),
  (10, 1, .lconst 1, [], 1),
  (11, 3, .ldc2_w 289, [1217], 99),
  (14, 3, .invokestatic 152, [95, 3, 1, 0, 1045], 0),
  (17, 3, .ifCond .eq 15, [16], 0),
  (20, 1, .iload_n 3, [], 0),
  (21, 1, .i2l, [], 0),
  (22, 1, .lconst 0, [], 0),
  (23, 3, .ldc2_w 291, [1222], 400),
  (26, 3, .invokestatic 152, [95, 3, 1, 0, 1045], 0),
  (29, 3, .ifCond .ne 5, [18], 0),
  (32, 1, .iconst (-1), [], (-1)),
  (33, 1, .ireturn, [0], 0),
  (34, 1, .aload_n 0, [], 0),
  (35, 3, .getfield 190, [0, 7, 23, 0, 0, 926], 0),
  (38, 2, .bipush 8, [], 8),
  (40, 3, .if_icmp .ne 6, [24], 0),
  (43, 2, .bipush (-3), [], (-3)),
  (45, 1, .ireturn, [0], 0),
  (46, 1, .aload_n 0, [], 0),
  (47, 3, .getfield 73, [1, 7, 24, 108, 22, 927], 0),
  (50, 1, .aload_n 0, [], 0),
  (51, 3, .getfield 190, [0, 7, 23, 0, 0, 926], 0),
  (54, 1, .iload_n 1, [], 0),
  (55, 1, .iastore, [], 0),
  (56, 1, .aload_n 0, [], 0),
  (57, 3, .getfield 76, [1, 7, 25, 108, 23, 928], 0),
  (60, 1, .aload_n 0, [], 0),
  (61, 3, .getfield 190, [0, 7, 23, 0, 0, 926], 0),
  (64, 1, .iload_n 2, [], 0),
  (65, 1, .iastore, [], 0),
  (66, 1, .aload_n 0, [], 0),
  (67, 3, .getfield 79, [1, 7, 26, 108, 24, 929], 0),
  (70, 1, .aload_n 0, [], 0),
  (71, 3, .getfield 190, [0, 7, 23, 0, 0, 926], 0),
  (74, 1, .iload_n 3, [], 0),
  (75, 1, .iastore, [], 0),
  (76, 1, .aload_n 0, [], 0),
  (77, 1, .dup, [], 0),
  (78, 3, .getfield 190, [0, 7, 23, 0, 0, 926], 0),
  (81, 1, .iconst 1, [], 1),
  (82, 1, .iadd, [], 0),
  (83, 3, .putfield 190, [0, 7, 23, 0, 0, 926], 0),
  (86, 1, .aload_n 0, [], 0),
  (87, 3, .getfield 190, [0, 7, 23, 0, 0, 926], 0),
  (90, 1, .ireturn, [0], 0)]
def cM_forget : List am_W := [(0, 1, .aload_n 0, [], 0),
  (1, 3, .getfield 190, [0, 7, 23, 0, 0, 926], 0),
  (4, 1, .istore_n 1, [], 0),
  (5, 1, .aload_n 0, [], 0),
  (6, 1, .iconst 0, [], 0),
  (7, 3, .putfield 190, [0, 7, 23, 0, 0, 926], 0),
  (10, 1, .iload_n 1, [], 0),
  (11, 1, .ireturn, [0], 0)]
def cM_onBy : List am_W := [(0, 1, .iload_n 1, [], 0),
  (1, 1, .iload_n 0, [], 0),
  (2, 1, .iconst 4, [], 4),
  (3, 1, .idiv, [], 0),
  (4, 1, .iconst 1, [], 1),
  (5, 1, .iadd, [], 0),
  (6, 1, .imul, [], 0),
  (7, 1, .iload_n 0, [], 0),
  (8, 1, .iconst 4, [], 4),
  (9, 1, .irem, [], 0),
  (10, 1, .iconst 1, [], 1),
  (11, 1, .iadd, [], 0),
  (12, 1, .idiv, [], 0),
  (13, 1, .ireturn, [0], 0)]
def cM_pacesOf : List am_W := [(0, 1, .iconst 0, [], 0),
  (1, 1, .istore_n 2, [], 0),
  (2, 1, .iconst 0, [], 0),
  (3, 1, .istore_n 3, [], 0),
  (4, 0, .nop, [5], 0),
  (4, 1, .iload_n 3, [], 0),
  (5, 2, .bipush 16, [], 16),
  (7, 3, .if_icmp .ge 89, [54], 0),
  (10, 1, .iconst 1, [], 1),
  (11, 2, .istore 4, [], 0),
  (13, 1, .iconst 0, [], 0),
  (14, 2, .istore 5, [], 0),
  (16, 0, .nop, [13], 0),
  (16, 2, .iload 5, [], 0),
  (18, 1, .aload_n 0, [], 0),
  (19, 3, .getfield 190, [0, 7, 23, 0, 0, 926], 0),
  (22, 3, .if_icmp .ge 53, [42], 0),
  (25, 2, .iload 4, [], 0),
  (27, 3, .ifCond .eq 39, [38], 0),
  (30, 1, .aload_n 0, [], 0),
  (31, 3, .getfield 73, [1, 7, 24, 108, 22, 927], 0),
  (34, 2, .iload 5, [], 0),
  (36, 1, .iaload, [], 0),
  (37, 1, .iload_n 1, [], 0),
  (38, 3, .if_icmp .ne 24, [36], 0),
  (41, 1, .iload_n 3, [], 0),
  (42, 1, .aload_n 0, [], 0),
  (43, 3, .getfield 76, [1, 7, 25, 108, 23, 928], 0),
  (46, 2, .iload 5, [], 0),
  (48, 1, .iaload, [], 0),
  (49, 3, .invokestatic 293, [154, 2, 1, 0, 1235], 0),
  (52, 1, .aload_n 0, [], 0),
  (53, 3, .getfield 79, [1, 7, 26, 108, 24, 929], 0),
  (56, 2, .iload 5, [], 0),
  (58, 1, .iaload, [], 0),
  (59, 3, .if_icmp .ne 7, [38], 0),
  (62, 1, .iconst 1, [], 1),
  (63, 3, .goto 4, [39], 0),
  (66, 1, .iconst 0, [], 0),
  (67, 2, .istore 4, [], 0),
  (69, 3, .iinc 5 1, [], 1),
  (72, 3, .goto (-56), [12], 0),
  (75, 1, .iload_n 2, [], 0),
  (76, 2, .iload 4, [], 0),
  (78, 3, .ifCond .eq 9, [49], 0),
  (81, 1, .iconst 1, [], 1),
  (82, 1, .iload_n 3, [], 0),
  (83, 1, .ishl, [], 0),
  (84, 3, .goto 4, [50], 0),
  (87, 1, .iconst 0, [], 0),
  (88, 1, .ior, [], 0),
  (89, 1, .istore_n 2, [], 0),
  (90, 3, .iinc 3 1, [], 1),
  (93, 3, .goto (-89), [4], 0),
  (96, 1, .iload_n 2, [], 0),
  (97, 1, .ireturn, [0], 0)]
def cM_paces : List am_W := [(0, 1, .aload_n 0, [], 0),
  (1, 1, .iload_n 1, [], 0),
  (2, 3, .invokevirtual 230, [108, 2, 1, 7, 1084], 0),
  (5, 3, .ifCond .eq 11, [8], 0),
  (8, 1, .aload_n 0, [], 0),
  (9, 1, .iload_n 1, [], 0),
  (10, 3, .invokevirtual 296, [155, 2, 1, 7, 1231], 0),
  (13, 3, .goto 4, [9], 0),
  (16, 1, .iconst (-1), [], (-1)),
  (17, 1, .ireturn, [0], 0)]
def cM_look : List am_W := [(0, 1, .aload_n 0, [], 0),
  (1, 1, .iload_n 1, [], 0),
  (2, 3, .invokevirtual 230, [108, 2, 1, 7, 1084], 0),
  (5, 3, .ifCond .eq 13, [10], 0),
  (8, 1, .iload_n 2, [], 0),
  (9, 1, .i2l, [], 0),
  (10, 1, .lconst 0, [], 0),
  (11, 1, .lconst 1, [], 1),
  (12, 3, .invokestatic 152, [95, 3, 1, 0, 1045], 0),
  (15, 3, .ifCond .ne 5, [12], 0),
  (18, 1, .iconst (-1), [], (-1)),
  (19, 1, .ireturn, [0], 0),
  (20, 1, .aload_n 0, [], 0),
  (21, 1, .iload_n 1, [], 0),
  (22, 3, .invokevirtual 296, [155, 2, 1, 7, 1231], 0),
  (25, 1, .istore_n 3, [], 0),
  (26, 2, .bipush (-4), [], (-4)),
  (28, 2, .istore 4, [], 0),
  (30, 1, .iconst 0, [], 0),
  (31, 2, .istore 5, [], 0),
  (33, 1, .iconst 1, [], 1),
  (34, 2, .istore 6, [], 0),
  (36, 0, .nop, [23], 0),
  (36, 2, .iload 6, [], 0),
  (38, 2, .bipush 24, [], 24),
  (40, 3, .if_icmp .gt 149, [94], 0),
  (43, 1, .iload_n 3, [], 0),
  (44, 3, .ifCond .eq 145, [94], 0),
  (47, 1, .iconst 0, [], 0),
  (48, 2, .istore 7, [], 0),
  (50, 1, .iconst 0, [], 0),
  (51, 2, .istore 8, [], 0),
  (53, 0, .nop, [33], 0),
  (53, 2, .iload 8, [], 0),
  (55, 2, .bipush 16, [], 16),
  (57, 3, .if_icmp .ge 89, [76], 0),
  (60, 1, .iconst 0, [], 0),
  (61, 2, .istore 9, [], 0),
  (63, 1, .iconst 0, [], 0),
  (64, 2, .istore 10, [], 0),
  (66, 0, .nop, [41], 0),
  (66, 2, .iload 10, [], 0),
  (68, 2, .bipush 16, [], 16),
  (70, 3, .if_icmp .ge 54, [67], 0),
  (73, 2, .iload 9, [], 0),
  (75, 1, .iload_n 3, [], 0),
  (76, 2, .iload 8, [], 0),
  (78, 3, .invokestatic 281, [96, 2, 1, 0, 1201], 0),
  (81, 3, .ifCond .eq 33, [62], 0),
  (84, 1, .iload_n 3, [], 0),
  (85, 2, .iload 10, [], 0),
  (87, 3, .invokestatic 281, [96, 2, 1, 0, 1201], 0),
  (90, 3, .ifCond .eq 24, [62], 0),
  (93, 2, .iload 8, [], 0),
  (95, 2, .iload 6, [], 0),
  (97, 3, .invokestatic 293, [154, 2, 1, 0, 1235], 0),
  (100, 2, .iload 10, [], 0),
  (102, 2, .iload 6, [], 0),
  (104, 3, .invokestatic 293, [154, 2, 1, 0, 1235], 0),
  (107, 3, .if_icmp .ne 7, [62], 0),
  (110, 1, .iconst 1, [], 1),
  (111, 3, .goto 4, [63], 0),
  (114, 1, .iconst 0, [], 0),
  (115, 1, .iadd, [], 0),
  (116, 2, .istore 9, [], 0),
  (118, 3, .iinc 10 1, [], 1),
  (121, 3, .goto (-55), [40], 0),
  (124, 2, .iload 9, [], 0),
  (126, 2, .iload 7, [], 0),
  (128, 3, .if_icmp .le 8, [72], 0),
  (131, 2, .iload 9, [], 0),
  (133, 3, .goto 5, [73], 0),
  (136, 2, .iload 7, [], 0),
  (138, 2, .istore 7, [], 0),
  (140, 3, .iinc 8 1, [], 1),
  (143, 3, .goto (-90), [32], 0),
  (146, 2, .iload 4, [], 0),
  (148, 3, .ifCond .lt 10, [81], 0),
  (151, 2, .iload 7, [], 0),
  (153, 2, .iload 5, [], 0),
  (155, 3, .if_icmp .ge 8, [83], 0),
  (158, 2, .iload 6, [], 0),
  (160, 3, .goto 5, [84], 0),
  (163, 2, .iload 4, [], 0),
  (165, 2, .istore 4, [], 0),
  (167, 2, .iload 4, [], 0),
  (169, 2, .iload 6, [], 0),
  (171, 3, .if_icmp .ne 8, [90], 0),
  (174, 2, .iload 7, [], 0),
  (176, 3, .goto 5, [91], 0),
  (179, 2, .iload 5, [], 0),
  (181, 2, .istore 5, [], 0),
  (183, 3, .iinc 6 1, [], 1),
  (186, 3, .goto (-150), [22], 0),
  (189, 2, .iload 4, [], 0),
  (191, 3, .ifCond .lt 7, [98], 0),
  (194, 1, .iload_n 2, [], 0),
  (195, 3, .ifCond .ne 8, [100], 0),
  (198, 2, .iload 4, [], 0),
  (200, 3, .goto 5, [101], 0),
  (203, 2, .iload 5, [], 0),
  (205, 1, .ireturn, [0], 0)]
def cM_mended : List am_W := [(0, 1, .aload_n 0, [], 0),
  (1, 1, .iload_n 1, [], 0),
  (2, 3, .invokevirtual 230, [108, 2, 1, 7, 1084], 0),
  (5, 3, .ifCond .ne 5, [6], 0),
  (8, 1, .iconst (-1), [], (-1)),
  (9, 1, .ireturn, [0], 0),
  (10, 1, .iconst 0, [], 0),
  (11, 1, .istore_n 2, [], 0),
  (12, 0, .nop, [9], 0),
  (12, 1, .iload_n 2, [], 0),
  (13, 1, .iconst 4, [], 4),
  (14, 3, .if_icmp .ge 21, [22], 0),
  (17, 1, .aload_n 0, [], 0),
  (18, 3, .getfield 130, [1, 7, 44, 104, 41, 947], 0),
  (21, 1, .iload_n 2, [], 0),
  (22, 1, .aload_n 0, [], 0),
  (23, 3, .getfield 88, [1, 7, 30, 104, 27, 933], 0),
  (26, 1, .iload_n 2, [], 0),
  (27, 1, .iaload, [], 0),
  (28, 1, .iastore, [], 0),
  (29, 3, .iinc 2 1, [], 1),
  (32, 3, .goto (-20), [8], 0),
  (35, 1, .aload_n 0, [], 0),
  (36, 3, .getfield 16, [1, 7, 3, 112, 3, 906], 0),
  (39, 1, .iload_n 1, [], 0),
  (40, 1, .iaload, [], 0),
  (41, 1, .istore_n 2, [], 0),
  (42, 1, .aload_n 0, [], 0),
  (43, 3, .getfield 19, [1, 7, 4, 112, 4, 907], 0),
  (46, 1, .iload_n 1, [], 0),
  (47, 1, .iaload, [], 0),
  (48, 1, .istore_n 3, [], 0),
  (49, 1, .aload_n 0, [], 0),
  (50, 3, .getfield 16, [1, 7, 3, 112, 3, 906], 0),
  (53, 1, .iload_n 1, [], 0),
  (54, 1, .iconst 1, [], 1),
  (55, 1, .iastore, [], 0),
  (56, 1, .aload_n 0, [], 0),
  (57, 3, .getfield 19, [1, 7, 4, 112, 4, 907], 0),
  (60, 1, .iload_n 1, [], 0),
  (61, 1, .iconst 1, [], 1),
  (62, 1, .iastore, [], 0),
  (63, 1, .aload_n 0, [], 0),
  (64, 3, .invokevirtual 145, [123, 1, 0, 7, 855], 0),
  (67, 1, .iconst 0, [], 0),
  (68, 2, .istore 4, [], 0),
  (70, 1, .iconst 0, [], 0),
  (71, 2, .istore 5, [], 0),
  (73, 0, .nop, [49], 0),
  (73, 2, .iload 5, [], 0),
  (75, 1, .aload_n 0, [], 0),
  (76, 3, .getfield 37, [1, 7, 10, 102, 10, 913], 0),
  (79, 1, .iconst 0, [], 0),
  (80, 1, .iaload, [], 0),
  (81, 3, .if_icmp .ge 39, [74], 0),
  (84, 2, .iload 4, [], 0),
  (86, 1, .aload_n 0, [], 0),
  (87, 3, .getfield 88, [1, 7, 30, 104, 27, 933], 0),
  (90, 2, .iload 5, [], 0),
  (92, 1, .iaload, [], 0),
  (93, 1, .aload_n 0, [], 0),
  (94, 3, .getfield 130, [1, 7, 44, 104, 41, 947], 0),
  (97, 2, .iload 5, [], 0),
  (99, 1, .iaload, [], 0),
  (100, 3, .if_icmp .ne 7, [67], 0),
  (103, 1, .iconst 0, [], 0),
  (104, 3, .goto 7, [70], 0),
  (107, 1, .iconst 1, [], 1),
  (108, 2, .iload 5, [], 0),
  (110, 1, .ishl, [], 0),
  (111, 1, .ior, [], 0),
  (112, 2, .istore 4, [], 0),
  (114, 3, .iinc 5 1, [], 1),
  (117, 3, .goto (-44), [48], 0),
  (120, 1, .aload_n 0, [], 0),
  (121, 3, .getfield 16, [1, 7, 3, 112, 3, 906], 0),
  (124, 1, .iload_n 1, [], 0),
  (125, 1, .iload_n 2, [], 0),
  (126, 1, .iastore, [], 0),
  (127, 1, .aload_n 0, [], 0),
  (128, 3, .getfield 19, [1, 7, 4, 112, 4, 907], 0),
  (131, 1, .iload_n 1, [], 0),
  (132, 1, .iload_n 3, [], 0),
  (133, 1, .iastore, [], 0),
  (134, 1, .aload_n 0, [], 0),
  (135, 3, .invokevirtual 145, [123, 1, 0, 7, 855], 0),
  (138, 2, .iload 4, [], 0),
  (140, 1, .ireturn, [0], 0)]
def cM_day : List am_W := [(0, 1, .iload_n 1, [], 0),
  (1, 1, .i2l, [], 0),
  (2, 1, .lconst 0, [], 0),
  (3, 3, .ldc2_w 237, [1094], 9999),
  (6, 3, .invokestatic 152, [95, 3, 1, 0, 1045], 0),
  (9, 3, .ifCond .eq 21, [16], 0),
  (12, 1, .aload_n 0, [], 0),
  (13, 1, .iload_n 2, [], 0),
  (14, 3, .invokevirtual 248, [110, 2, 1, 7, 1113], 0),
  (17, 3, .ifCond .eq 13, [16], 0),
  (20, 1, .iload_n 3, [], 0),
  (21, 1, .i2l, [], 0),
  (22, 1, .lconst 0, [], 0),
  (23, 1, .lconst 1, [], 1),
  (24, 3, .invokestatic 152, [95, 3, 1, 0, 1045], 0),
  (27, 3, .ifCond .ne 5, [18], 0),
  (30, 1, .iconst (-1), [], (-1)),
  (31, 1, .ireturn, [0], 0),
  (32, 1, .aload_n 0, [], 0),
  (33, 3, .getfield 85, [1, 7, 29, 104, 26, 932], 0),
  (36, 1, .iload_n 2, [], 0),
  (37, 1, .iaload, [], 0),
  (38, 2, .istore 4, [], 0),
  (40, 1, .aload_n 0, [], 0),
  (41, 3, .getfield 88, [1, 7, 30, 104, 27, 933], 0),
  (44, 1, .iload_n 2, [], 0),
  (45, 1, .iaload, [], 0),
  (46, 2, .istore 5, [], 0),
  (48, 1, .iconst 0, [], 0),
  (49, 2, .istore 6, [], 0),
  (51, 0, .nop, [31], 0),
  (51, 2, .iload 6, [], 0),
  (53, 2, .bipush 12, [], 12),
  (55, 3, .if_icmp .ge 136, [113], 0),
  (58, 3, .ldc2_w 299, [1250], 7919),
  (61, 1, .iload_n 1, [], 0),
  (62, 1, .i2l, [], 0),
  (63, 1, .lmul, [], 0),
  (64, 3, .ldc2_w 301, [1251], 6151),
  (67, 2, .iload 6, [], 0),
  (69, 1, .i2l, [], 0),
  (70, 1, .lmul, [], 0),
  (71, 1, .ladd, [], 0),
  (72, 1, .lconst 1, [], 1),
  (73, 1, .ladd, [], 0),
  (74, 2, .lstore 7, [], 0),
  (76, 2, .lload 7, [], 0),
  (78, 2, .lload 7, [], 0),
  (80, 1, .lmul, [], 0),
  (81, 3, .ldc2_w 303, [1252], 65521),
  (84, 1, .lrem, [], 0),
  (85, 1, .l2i, [], 0),
  (86, 2, .istore 9, [], 0),
  (88, 0, .nop, [54], 0),
  (88, 2, .iload 9, [], 0),
  (90, 1, .iconst 3, [], 3),
  (91, 1, .irem, [], 0),
  (92, 3, .ifCond .ne 26, [73], 0),
  (95, 2, .iload 5, [], 0),
  (97, 2, .iload 9, [], 0),
  (99, 1, .iconst 4, [], 4),
  (100, 1, .idiv, [], 0),
  (101, 1, .iconst 3, [], 3),
  (102, 1, .irem, [], 0),
  (103, 1, .iconst 1, [], 1),
  (104, 1, .iadd, [], 0),
  (105, 1, .aload_n 0, [], 0),
  (106, 2, .iload 4, [], 0),
  (108, 3, .invokevirtual 193, [112, 2, 1, 7, 871], 0),
  (111, 1, .imul, [], 0),
  (112, 1, .iadd, [], 0),
  (113, 2, .istore 5, [], 0),
  (115, 3, .goto 70, [111], 0),
  (118, 1, .aload_n 0, [], 0),
  (119, 3, .getfield 25, [1, 7, 6, 102, 6, 909], 0),
  (122, 1, .iconst 0, [], 0),
  (123, 1, .iaload, [], 0),
  (124, 3, .ifCond .le 61, [111], 0),
  (127, 1, .aload_n 0, [], 0),
  (128, 2, .iload 9, [], 0),
  (130, 2, .bipush 8, [], 8),
  (132, 1, .idiv, [], 0),
  (133, 1, .aload_n 0, [], 0),
  (134, 3, .getfield 25, [1, 7, 6, 102, 6, 909], 0),
  (137, 1, .iconst 0, [], 0),
  (138, 1, .iaload, [], 0),
  (139, 1, .irem, [], 0),
  (140, 2, .iload 4, [], 0),
  (142, 3, .invokevirtual 196, [115, 3, 1, 7, 879], 0),
  (145, 3, .ifCond .eq 40, [111], 0),
  (148, 2, .iload 9, [], 0),
  (150, 2, .bipush 8, [], 8),
  (152, 1, .idiv, [], 0),
  (153, 1, .aload_n 0, [], 0),
  (154, 3, .getfield 25, [1, 7, 6, 102, 6, 909], 0),
  (157, 1, .iconst 0, [], 0),
  (158, 1, .iaload, [], 0),
  (159, 1, .irem, [], 0),
  (160, 2, .istore 10, [], 0),
  (162, 2, .iload 5, [], 0),
  (164, 1, .aload_n 0, [], 0),
  (165, 2, .iload 10, [], 0),
  (167, 2, .iload 4, [], 0),
  (169, 3, .invokevirtual 273, [142, 3, 1, 7, 1181], 0),
  (172, 1, .iadd, [], 0),
  (173, 2, .istore 5, [], 0),
  (175, 1, .aload_n 0, [], 0),
  (176, 2, .iload 10, [], 0),
  (178, 2, .iload 4, [], 0),
  (180, 3, .invokevirtual 208, [117, 3, 1, 7, 887], 0),
  (183, 2, .istore 4, [], 0),
  (185, 3, .iinc 6 1, [], 1),
  (188, 3, .goto (-137), [30], 0),
  (191, 1, .iload_n 3, [], 0),
  (192, 3, .ifCond .ne 11, [119], 0),
  (195, 2, .iload 5, [], 0),
  (197, 2, .ldc 251, [1117], 100000),
  (199, 1, .iadd, [], 0),
  (200, 3, .goto 5, [120], 0),
  (203, 2, .iload 4, [], 0),
  (205, 1, .ireturn, [0], 0)]
def cM_copy : List am_W := [(0, 1, .aload_n 0, [], 0),
  (1, 3, .getfield 61, [1, 7, 18, 103, 18, 921], 0),
  (4, 1, .iload_n 2, [], 0),
  (5, 1, .aload_n 0, [], 0),
  (6, 3, .getfield 61, [1, 7, 18, 103, 18, 921], 0),
  (9, 1, .iload_n 1, [], 0),
  (10, 1, .iaload, [], 0),
  (11, 1, .iastore, [], 0),
  (12, 1, .iconst 0, [], 0),
  (13, 1, .istore_n 3, [], 0),
  (14, 0, .nop, [11], 0),
  (14, 1, .iload_n 3, [], 0),
  (15, 2, .bipush 40, [], 40),
  (17, 3, .if_icmp .ge 75, [64], 0),
  (20, 1, .aload_n 0, [], 0),
  (21, 3, .getfield 64, [1, 7, 19, 220, 19, 922], 0),
  (24, 2, .bipush 40, [], 40),
  (26, 1, .iload_n 2, [], 0),
  (27, 1, .imul, [], 0),
  (28, 1, .iload_n 3, [], 0),
  (29, 1, .iadd, [], 0),
  (30, 1, .aload_n 0, [], 0),
  (31, 3, .getfield 64, [1, 7, 19, 220, 19, 922], 0),
  (34, 2, .bipush 40, [], 40),
  (36, 1, .iload_n 1, [], 0),
  (37, 1, .imul, [], 0),
  (38, 1, .iload_n 3, [], 0),
  (39, 1, .iadd, [], 0),
  (40, 1, .iaload, [], 0),
  (41, 1, .iastore, [], 0),
  (42, 1, .aload_n 0, [], 0),
  (43, 3, .getfield 67, [1, 7, 20, 220, 20, 923], 0),
  (46, 2, .bipush 40, [], 40),
  (48, 1, .iload_n 2, [], 0),
  (49, 1, .imul, [], 0),
  (50, 1, .iload_n 3, [], 0),
  (51, 1, .iadd, [], 0),
  (52, 1, .aload_n 0, [], 0),
  (53, 3, .getfield 67, [1, 7, 20, 220, 20, 923], 0),
  (56, 2, .bipush 40, [], 40),
  (58, 1, .iload_n 1, [], 0),
  (59, 1, .imul, [], 0),
  (60, 1, .iload_n 3, [], 0),
  (61, 1, .iadd, [], 0),
  (62, 1, .iaload, [], 0),
  (63, 1, .iastore, [], 0),
  (64, 1, .aload_n 0, [], 0),
  (65, 3, .getfield 70, [1, 7, 21, 220, 21, 924], 0),
  (68, 2, .bipush 40, [], 40),
  (70, 1, .iload_n 2, [], 0),
  (71, 1, .imul, [], 0),
  (72, 1, .iload_n 3, [], 0),
  (73, 1, .iadd, [], 0),
  (74, 1, .aload_n 0, [], 0),
  (75, 3, .getfield 70, [1, 7, 21, 220, 21, 924], 0),
  (78, 2, .bipush 40, [], 40),
  (80, 1, .iload_n 1, [], 0),
  (81, 1, .imul, [], 0),
  (82, 1, .iload_n 3, [], 0),
  (83, 1, .iadd, [], 0),
  (84, 1, .iaload, [], 0),
  (85, 1, .iastore, [], 0),
  (86, 3, .iinc 3 1, [], 1),
  (89, 3, .goto (-75), [10], 0),
  (92, 1, .return_, [], 0)]
def cM_keep : List am_W := [(0, 1, .aload_n 0, [], 0),
  (1, 3, .getfield 187, [0, 7, 22, 0, 0, 925], 0),
  (4, 1, .iconst 2, [], 2),
  (5, 3, .if_icmp .ne 6, [6], 0),
  (8, 2, .bipush (-3), [], (-3)),
  (10, 1, .ireturn, [0], 0),
  (11, 1, .aload_n 0, [], 0),
  (12, 1, .dup, [], 0),
  (13, 3, .getfield 187, [0, 7, 22, 0, 0, 925], 0),
  (16, 1, .iconst 1, [], 1),
  (17, 1, .iadd, [], 0),
  (18, 3, .putfield 187, [0, 7, 22, 0, 0, 925], 0),
  (21, 1, .aload_n 0, [], 0),
  (22, 1, .iconst 0, [], 0),
  (23, 1, .aload_n 0, [], 0),
  (24, 3, .getfield 187, [0, 7, 22, 0, 0, 925], 0),
  (27, 3, .invokevirtual 305, [160, 3, 0, 7, 1257], 0),
  (30, 1, .aload_n 0, [], 0),
  (31, 3, .getfield 187, [0, 7, 22, 0, 0, 925], 0),
  (34, 1, .ireturn, [0], 0)]
def cM_back : List am_W := [(0, 1, .aload_n 0, [], 0),
  (1, 3, .getfield 187, [0, 7, 22, 0, 0, 925], 0),
  (4, 3, .ifCond .ne 6, [5], 0),
  (7, 2, .bipush (-2), [], (-2)),
  (9, 1, .ireturn, [0], 0),
  (10, 1, .aload_n 0, [], 0),
  (11, 1, .aload_n 0, [], 0),
  (12, 3, .getfield 187, [0, 7, 22, 0, 0, 925], 0),
  (15, 1, .iconst 0, [], 0),
  (16, 3, .invokevirtual 305, [160, 3, 0, 7, 1257], 0),
  (19, 1, .aload_n 0, [], 0),
  (20, 1, .dup, [], 0),
  (21, 3, .getfield 187, [0, 7, 22, 0, 0, 925], 0),
  (24, 1, .iconst 1, [], 1),
  (25, 1, .isub, [], 0),
  (26, 3, .putfield 187, [0, 7, 22, 0, 0, 925], 0),
  (29, 1, .aload_n 0, [], 0),
  (30, 3, .invokevirtual 145, [123, 1, 0, 7, 855], 0),
  (33, 1, .aload_n 0, [], 0),
  (34, 3, .getfield 187, [0, 7, 22, 0, 0, 925], 0),
  (37, 1, .ireturn, [0], 0)]
def cM_count : List am_W := [(0, 1, .iload_n 1, [], 0),
  (1, 51, .tableswitch 108 0 8 #[51, 58, 65, 72, 79, 86, 91, 96, 101], [41, 0, 2, 1, 7, 2, 12, 3, 17, 4, 22, 5, 27, 6, 30, 7, 33, 8, 36], 0),
  (52, 1, .aload_n 0, [], 0),
  (53, 3, .getfield 13, [1, 7, 2, 102, 2, 905], 0),
  (56, 1, .iconst 0, [], 0),
  (57, 1, .iaload, [], 0),
  (58, 1, .ireturn, [0], 0),
  (59, 1, .aload_n 0, [], 0),
  (60, 3, .getfield 25, [1, 7, 6, 102, 6, 909], 0),
  (63, 1, .iconst 0, [], 0),
  (64, 1, .iaload, [], 0),
  (65, 1, .ireturn, [0], 0),
  (66, 1, .aload_n 0, [], 0),
  (67, 3, .getfield 37, [1, 7, 10, 102, 10, 913], 0),
  (70, 1, .iconst 0, [], 0),
  (71, 1, .iaload, [], 0),
  (72, 1, .ireturn, [0], 0),
  (73, 1, .aload_n 0, [], 0),
  (74, 3, .getfield 46, [1, 7, 13, 102, 13, 916], 0),
  (77, 1, .iconst 0, [], 0),
  (78, 1, .iaload, [], 0),
  (79, 1, .ireturn, [0], 0),
  (80, 1, .aload_n 0, [], 0),
  (81, 3, .getfield 61, [1, 7, 18, 103, 18, 921], 0),
  (84, 1, .iconst 0, [], 0),
  (85, 1, .iaload, [], 0),
  (86, 1, .ireturn, [0], 0),
  (87, 1, .aload_n 0, [], 0),
  (88, 3, .getfield 190, [0, 7, 23, 0, 0, 926], 0),
  (91, 1, .ireturn, [0], 0),
  (92, 1, .aload_n 0, [], 0),
  (93, 3, .getfield 187, [0, 7, 22, 0, 0, 925], 0),
  (96, 1, .ireturn, [0], 0),
  (97, 1, .aload_n 0, [], 0),
  (98, 3, .getfield 156, [0, 7, 0, 0, 0, 903], 0),
  (101, 1, .ireturn, [0], 0),
  (102, 1, .aload_n 0, [], 0),
  (103, 3, .getfield 58, [1, 7, 17, 102, 17, 920], 0),
  (106, 1, .iconst 0, [], 0),
  (107, 1, .iaload, [], 0),
  (108, 1, .ireturn, [0], 0),
  (109, 1, .iconst (-1), [], (-1)),
  (110, 1, .ireturn, [0], 0)]
def cJ_bitCount : List am_W := [(0, 1, .iload_n 0, [], 0),
  (1, 1, .iload_n 0, [], 0),
  (2, 1, .iconst 1, [], 1),
  (3, 1, .iushr, [], 0),
  (4, 3, .ldc_w 265, [645], 1431655765),
  (7, 1, .iand, [], 0),
  (8, 1, .isub, [], 0),
  (9, 1, .istore_n 0, [], 0),
  (10, 1, .iload_n 0, [], 0),
  (11, 3, .ldc_w 266, [646], 858993459),
  (14, 1, .iand, [], 0),
  (15, 1, .iload_n 0, [], 0),
  (16, 1, .iconst 2, [], 2),
  (17, 1, .iushr, [], 0),
  (18, 3, .ldc_w 266, [646], 858993459),
  (21, 1, .iand, [], 0),
  (22, 1, .iadd, [], 0),
  (23, 1, .istore_n 0, [], 0),
  (24, 1, .iload_n 0, [], 0),
  (25, 1, .iload_n 0, [], 0),
  (26, 1, .iconst 4, [], 4),
  (27, 1, .iushr, [], 0),
  (28, 1, .iadd, [], 0),
  (29, 3, .ldc_w 267, [647], 252645135),
  (32, 1, .iand, [], 0),
  (33, 1, .istore_n 0, [], 0),
  (34, 1, .iload_n 0, [], 0),
  (35, 1, .iload_n 0, [], 0),
  (36, 2, .bipush 8, [], 8),
  (38, 1, .iushr, [], 0),
  (39, 1, .iadd, [], 0),
  (40, 1, .istore_n 0, [], 0),
  (41, 1, .iload_n 0, [], 0),
  (42, 1, .iload_n 0, [], 0),
  (43, 2, .bipush 16, [], 16),
  (45, 1, .iushr, [], 0),
  (46, 1, .iadd, [], 0),
  (47, 1, .istore_n 0, [], 0),
  (48, 1, .iload_n 0, [], 0),
  (49, 2, .bipush 63, [], 63),
  (51, 1, .iand, [], 0),
  (52, 1, .ireturn, [0], 0)]
def cJ_floorMod : List am_W := [(0, 1, .iload_n 0, [], 0),
  (1, 1, .iload_n 1, [], 0),
  (2, 1, .irem, [], 0),
  (3, 1, .istore_n 2, [], 0),
  (4, 1, .iload_n 0, [], 0),
  (5, 1, .iload_n 1, [], 0),
  (6, 1, .ixor, [], 0),
  (7, 3, .ifCond .ge 11, [14], 0),
  (10, 1, .iload_n 2, [], 0),
  (11, 3, .ifCond .eq 7, [14], 0),
  (14, 1, .iload_n 2, [], 0),
  (15, 1, .iload_n 1, [], 0),
  (16, 1, .iadd, [], 0),
  (17, 1, .ireturn, [0], 0),
  (18, 1, .iload_n 2, [], 0),
  (19, 1, .ireturn, [0], 0)]
def cJ_max : List am_W := [(0, 1, .iload_n 0, [], 0),
  (1, 1, .iload_n 1, [], 0),
  (2, 3, .if_icmp .lt 7, [5], 0),
  (5, 1, .iload_n 0, [], 0),
  (6, 3, .goto 4, [6], 0),
  (9, 1, .iload_n 1, [], 0),
  (10, 1, .ireturn, [0], 0)]
def cJ_min : List am_W := [(0, 1, .iload_n 0, [], 0),
  (1, 1, .iload_n 1, [], 0),
  (2, 3, .if_icmp .gt 7, [5], 0),
  (5, 1, .iload_n 0, [], 0),
  (6, 3, .goto 4, [6], 0),
  (9, 1, .iload_n 1, [], 0),
  (10, 1, .ireturn, [0], 0)]
def cJ_fill : List am_W := [(0, 1, .iconst 0, [], 0),
  (1, 1, .istore_n 2, [], 0),
  (2, 1, .aload_n 0, [], 0),
  (3, 1, .arraylength, [], 0),
  (4, 1, .istore_n 3, [], 0),
  (5, 0, .nop, [6], 0),
  (5, 1, .iload_n 2, [], 0),
  (6, 1, .iload_n 3, [], 0),
  (7, 3, .if_icmp .ge 13, [15], 0),
  (10, 1, .aload_n 0, [], 0),
  (11, 1, .iload_n 2, [], 0),
  (12, 1, .iload_n 1, [], 0),
  (13, 1, .iastore, [], 0),
  (14, 3, .iinc 2 1, [], 1),
  (17, 3, .goto (-12), [5], 0),
  (20, 1, .return_, [], 0)]
def cL_law : List am_W := [(16, 1, .iconst 0, [], 0),
  (17, 1, .istore_n 3, [], 0),
  (18, 0, .nop, [3], 0),
  (18, 1, .iload_n 3, [], 0),
  (19, 1, .aload_n 0, [], 0),
  (20, 1, .arraylength, [], 0),
  (21, 1, .iconst 5, [], 5),
  (22, 1, .isub, [], 0),
  (23, 3, .if_icmp .gt 1095, [761], 0),
  (26, 1, .aload_n 0, [], 0),
  (27, 1, .iload_n 3, [], 0),
  (28, 1, .iaload, [], 0),
  (29, 2, .bipush 31, [], 31),
  (31, 1, .iand, [], 0),
  (32, 144, .tableswitch 1080 0 31 #[144, 167, 180, 193, 206, 239, 282, 315, 348, 381, 414, 447, 480, 513, 546, 559, 602, 655, 678, 691, 734, 777, 820, 853, 896, 909, 932, 965, 988, 1031, 1044, 1057], [759, 0, 15, 1, 32, 2, 39, 3, 46, 4, 53, 5, 80, 6, 117, 7, 144, 8, 171, 9, 198, 10, 225, 11, 252, 12, 279, 13, 306, 14, 333, 15, 340, 16, 377, 17, 424, 18, 441, 19, 448, 20, 485, 21, 522, 22, 559, 23, 586, 24, 623, 25, 630, 26, 647, 27, 674, 28, 691, 29, 728, 30, 735, 31, 742], 0),
  (176, 1, .aload_n 1, [], 0),
  (177, 1, .aload_n 0, [], 0),
  (178, 1, .iload_n 3, [], 0),
  (179, 1, .iconst 1, [], 1),
  (180, 1, .iadd, [], 0),
  (181, 1, .iaload, [], 0),
  (182, 3, .invokevirtual 13, [49, 2, 1, 6, 475], 0),
  (185, 1, .aload_n 2, [], 0),
  (186, 1, .aload_n 0, [], 0),
  (187, 1, .iload_n 3, [], 0),
  (188, 1, .iconst 1, [], 1),
  (189, 1, .iadd, [], 0),
  (190, 1, .iaload, [], 0),
  (191, 3, .invokevirtual 17, [100, 2, 1, 7, 1039], 0),
  (194, 3, .if_icmp .eq 918, [759], 0),
  (197, 1, .iconst 0, [], 0),
  (198, 1, .ireturn, [1], 0),
  (199, 1, .aload_n 1, [], 0),
  (200, 3, .invokevirtual 18, [50, 1, 1, 6, 479], 0),
  (203, 1, .aload_n 2, [], 0),
  (204, 3, .invokevirtual 22, [101, 1, 1, 7, 1048], 0),
  (207, 3, .if_icmp .eq 905, [759], 0),
  (210, 1, .iconst 0, [], 0),
  (211, 1, .ireturn, [1], 0),
  (212, 1, .aload_n 1, [], 0),
  (213, 3, .invokevirtual 23, [51, 1, 1, 6, 483], 0),
  (216, 1, .aload_n 2, [], 0),
  (217, 3, .invokevirtual 26, [106, 1, 1, 7, 1052], 0),
  (220, 3, .if_icmp .eq 892, [759], 0),
  (223, 1, .iconst 0, [], 0),
  (224, 1, .ireturn, [1], 0),
  (225, 1, .aload_n 1, [], 0),
  (226, 3, .invokevirtual 27, [52, 1, 1, 6, 487], 0),
  (229, 1, .aload_n 2, [], 0),
  (230, 3, .invokevirtual 30, [107, 1, 1, 7, 1076], 0),
  (233, 3, .if_icmp .eq 879, [759], 0),
  (236, 1, .iconst 0, [], 0),
  (237, 1, .ireturn, [1], 0),
  (238, 1, .aload_n 1, [], 0),
  (239, 1, .aload_n 0, [], 0),
  (240, 1, .iload_n 3, [], 0),
  (241, 1, .iconst 1, [], 1),
  (242, 1, .iadd, [], 0),
  (243, 1, .iaload, [], 0),
  (244, 1, .aload_n 0, [], 0),
  (245, 1, .iload_n 3, [], 0),
  (246, 1, .iconst 2, [], 2),
  (247, 1, .iadd, [], 0),
  (248, 1, .iaload, [], 0),
  (249, 3, .invokevirtual 31, [53, 3, 1, 6, 491], 0),
  (252, 1, .aload_n 2, [], 0),
  (253, 1, .aload_n 0, [], 0),
  (254, 1, .iload_n 3, [], 0),
  (255, 1, .iconst 1, [], 1),
  (256, 1, .iadd, [], 0),
  (257, 1, .iaload, [], 0),
  (258, 1, .aload_n 0, [], 0),
  (259, 1, .iload_n 3, [], 0),
  (260, 1, .iconst 2, [], 2),
  (261, 1, .iadd, [], 0),
  (262, 1, .iaload, [], 0),
  (263, 3, .invokevirtual 35, [125, 3, 1, 7, 1080], 0),
  (266, 3, .if_icmp .eq 846, [759], 0),
  (269, 1, .iconst 0, [], 0),
  (270, 1, .ireturn, [1], 0),
  (271, 1, .aload_n 1, [], 0),
  (272, 1, .aload_n 0, [], 0),
  (273, 1, .iload_n 3, [], 0),
  (274, 1, .iconst 1, [], 1),
  (275, 1, .iadd, [], 0),
  (276, 1, .iaload, [], 0),
  (277, 1, .aload_n 0, [], 0),
  (278, 1, .iload_n 3, [], 0),
  (279, 1, .iconst 2, [], 2),
  (280, 1, .iadd, [], 0),
  (281, 1, .iaload, [], 0),
  (282, 1, .aload_n 0, [], 0),
  (283, 1, .iload_n 3, [], 0),
  (284, 1, .iconst 3, [], 3),
  (285, 1, .iadd, [], 0),
  (286, 1, .iaload, [], 0),
  (287, 3, .invokevirtual 36, [54, 4, 1, 6, 502], 0),
  (290, 1, .aload_n 2, [], 0),
  (291, 1, .aload_n 0, [], 0),
  (292, 1, .iload_n 3, [], 0),
  (293, 1, .iconst 1, [], 1),
  (294, 1, .iadd, [], 0),
  (295, 1, .iaload, [], 0),
  (296, 1, .aload_n 0, [], 0),
  (297, 1, .iload_n 3, [], 0),
  (298, 1, .iconst 2, [], 2),
  (299, 1, .iadd, [], 0),
  (300, 1, .iaload, [], 0),
  (301, 1, .aload_n 0, [], 0),
  (302, 1, .iload_n 3, [], 0),
  (303, 1, .iconst 3, [], 3),
  (304, 1, .iadd, [], 0),
  (305, 1, .iaload, [], 0),
  (306, 3, .invokevirtual 40, [127, 4, 1, 7, 1089], 0),
  (309, 3, .if_icmp .eq 803, [759], 0),
  (312, 1, .iconst 0, [], 0),
  (313, 1, .ireturn, [1], 0),
  (314, 1, .aload_n 1, [], 0),
  (315, 1, .aload_n 0, [], 0),
  (316, 1, .iload_n 3, [], 0),
  (317, 1, .iconst 1, [], 1),
  (318, 1, .iadd, [], 0),
  (319, 1, .iaload, [], 0),
  (320, 1, .aload_n 0, [], 0),
  (321, 1, .iload_n 3, [], 0),
  (322, 1, .iconst 2, [], 2),
  (323, 1, .iadd, [], 0),
  (324, 1, .iaload, [], 0),
  (325, 3, .invokevirtual 41, [55, 3, 1, 6, 518], 0),
  (328, 1, .aload_n 2, [], 0),
  (329, 1, .aload_n 0, [], 0),
  (330, 1, .iload_n 3, [], 0),
  (331, 1, .iconst 1, [], 1),
  (332, 1, .iadd, [], 0),
  (333, 1, .iaload, [], 0),
  (334, 1, .aload_n 0, [], 0),
  (335, 1, .iload_n 3, [], 0),
  (336, 1, .iconst 2, [], 2),
  (337, 1, .iadd, [], 0),
  (338, 1, .iaload, [], 0),
  (339, 3, .invokevirtual 44, [128, 3, 1, 7, 1101], 0),
  (342, 3, .if_icmp .eq 770, [759], 0),
  (345, 1, .iconst 0, [], 0),
  (346, 1, .ireturn, [1], 0),
  (347, 1, .aload_n 1, [], 0),
  (348, 1, .aload_n 0, [], 0),
  (349, 1, .iload_n 3, [], 0),
  (350, 1, .iconst 1, [], 1),
  (351, 1, .iadd, [], 0),
  (352, 1, .iaload, [], 0),
  (353, 1, .aload_n 0, [], 0),
  (354, 1, .iload_n 3, [], 0),
  (355, 1, .iconst 2, [], 2),
  (356, 1, .iadd, [], 0),
  (357, 1, .iaload, [], 0),
  (358, 3, .invokevirtual 45, [56, 3, 1, 6, 526], 0),
  (361, 1, .aload_n 2, [], 0),
  (362, 1, .aload_n 0, [], 0),
  (363, 1, .iload_n 3, [], 0),
  (364, 1, .iconst 1, [], 1),
  (365, 1, .iadd, [], 0),
  (366, 1, .iaload, [], 0),
  (367, 1, .aload_n 0, [], 0),
  (368, 1, .iload_n 3, [], 0),
  (369, 1, .iconst 2, [], 2),
  (370, 1, .iadd, [], 0),
  (371, 1, .iaload, [], 0),
  (372, 3, .invokevirtual 48, [130, 3, 1, 7, 1109], 0),
  (375, 3, .if_icmp .eq 737, [759], 0),
  (378, 1, .iconst 0, [], 0),
  (379, 1, .ireturn, [1], 0),
  (380, 1, .aload_n 1, [], 0),
  (381, 1, .aload_n 0, [], 0),
  (382, 1, .iload_n 3, [], 0),
  (383, 1, .iconst 1, [], 1),
  (384, 1, .iadd, [], 0),
  (385, 1, .iaload, [], 0),
  (386, 1, .aload_n 0, [], 0),
  (387, 1, .iload_n 3, [], 0),
  (388, 1, .iconst 2, [], 2),
  (389, 1, .iadd, [], 0),
  (390, 1, .iaload, [], 0),
  (391, 3, .invokevirtual 49, [57, 3, 1, 6, 546], 0),
  (394, 1, .aload_n 2, [], 0),
  (395, 1, .aload_n 0, [], 0),
  (396, 1, .iload_n 3, [], 0),
  (397, 1, .iconst 1, [], 1),
  (398, 1, .iadd, [], 0),
  (399, 1, .iaload, [], 0),
  (400, 1, .aload_n 0, [], 0),
  (401, 1, .iload_n 3, [], 0),
  (402, 1, .iconst 2, [], 2),
  (403, 1, .iadd, [], 0),
  (404, 1, .iaload, [], 0),
  (405, 3, .invokevirtual 52, [131, 3, 1, 7, 1122], 0),
  (408, 3, .if_icmp .eq 704, [759], 0),
  (411, 1, .iconst 0, [], 0),
  (412, 1, .ireturn, [1], 0),
  (413, 1, .aload_n 1, [], 0),
  (414, 1, .aload_n 0, [], 0),
  (415, 1, .iload_n 3, [], 0),
  (416, 1, .iconst 1, [], 1),
  (417, 1, .iadd, [], 0),
  (418, 1, .iaload, [], 0),
  (419, 1, .aload_n 0, [], 0),
  (420, 1, .iload_n 3, [], 0),
  (421, 1, .iconst 2, [], 2),
  (422, 1, .iadd, [], 0),
  (423, 1, .iaload, [], 0),
  (424, 3, .invokevirtual 53, [58, 3, 1, 6, 554], 0),
  (427, 1, .aload_n 2, [], 0),
  (428, 1, .aload_n 0, [], 0),
  (429, 1, .iload_n 3, [], 0),
  (430, 1, .iconst 1, [], 1),
  (431, 1, .iadd, [], 0),
  (432, 1, .iaload, [], 0),
  (433, 1, .aload_n 0, [], 0),
  (434, 1, .iload_n 3, [], 0),
  (435, 1, .iconst 2, [], 2),
  (436, 1, .iadd, [], 0),
  (437, 1, .iaload, [], 0),
  (438, 3, .invokevirtual 56, [133, 3, 1, 7, 1131], 0),
  (441, 3, .if_icmp .eq 671, [759], 0),
  (444, 1, .iconst 0, [], 0),
  (445, 1, .ireturn, [1], 0),
  (446, 1, .aload_n 1, [], 0),
  (447, 1, .aload_n 0, [], 0),
  (448, 1, .iload_n 3, [], 0),
  (449, 1, .iconst 1, [], 1),
  (450, 1, .iadd, [], 0),
  (451, 1, .iaload, [], 0),
  (452, 1, .aload_n 0, [], 0),
  (453, 1, .iload_n 3, [], 0),
  (454, 1, .iconst 2, [], 2),
  (455, 1, .iadd, [], 0),
  (456, 1, .iaload, [], 0),
  (457, 3, .invokevirtual 57, [59, 3, 1, 6, 571], 0),
  (460, 1, .aload_n 2, [], 0),
  (461, 1, .aload_n 0, [], 0),
  (462, 1, .iload_n 3, [], 0),
  (463, 1, .iconst 1, [], 1),
  (464, 1, .iadd, [], 0),
  (465, 1, .iaload, [], 0),
  (466, 1, .aload_n 0, [], 0),
  (467, 1, .iload_n 3, [], 0),
  (468, 1, .iconst 2, [], 2),
  (469, 1, .iadd, [], 0),
  (470, 1, .iaload, [], 0),
  (471, 3, .invokevirtual 60, [136, 3, 1, 7, 1139], 0),
  (474, 3, .if_icmp .eq 638, [759], 0),
  (477, 1, .iconst 0, [], 0),
  (478, 1, .ireturn, [1], 0),
  (479, 1, .aload_n 1, [], 0),
  (480, 1, .aload_n 0, [], 0),
  (481, 1, .iload_n 3, [], 0),
  (482, 1, .iconst 1, [], 1),
  (483, 1, .iadd, [], 0),
  (484, 1, .iaload, [], 0),
  (485, 1, .aload_n 0, [], 0),
  (486, 1, .iload_n 3, [], 0),
  (487, 1, .iconst 2, [], 2),
  (488, 1, .iadd, [], 0),
  (489, 1, .iaload, [], 0),
  (490, 3, .invokevirtual 61, [60, 3, 1, 6, 632], 0),
  (493, 1, .aload_n 2, [], 0),
  (494, 1, .aload_n 0, [], 0),
  (495, 1, .iload_n 3, [], 0),
  (496, 1, .iconst 1, [], 1),
  (497, 1, .iadd, [], 0),
  (498, 1, .iaload, [], 0),
  (499, 1, .aload_n 0, [], 0),
  (500, 1, .iload_n 3, [], 0),
  (501, 1, .iconst 2, [], 2),
  (502, 1, .iadd, [], 0),
  (503, 1, .iaload, [], 0),
  (504, 3, .invokevirtual 64, [137, 3, 1, 7, 1148], 0),
  (507, 3, .if_icmp .eq 605, [759], 0),
  (510, 1, .iconst 0, [], 0),
  (511, 1, .ireturn, [1], 0),
  (512, 1, .aload_n 1, [], 0),
  (513, 1, .aload_n 0, [], 0),
  (514, 1, .iload_n 3, [], 0),
  (515, 1, .iconst 1, [], 1),
  (516, 1, .iadd, [], 0),
  (517, 1, .iaload, [], 0),
  (518, 1, .aload_n 0, [], 0),
  (519, 1, .iload_n 3, [], 0),
  (520, 1, .iconst 2, [], 2),
  (521, 1, .iadd, [], 0),
  (522, 1, .iaload, [], 0),
  (523, 3, .invokevirtual 65, [61, 3, 1, 6, 637], 0),
  (526, 1, .aload_n 2, [], 0),
  (527, 1, .aload_n 0, [], 0),
  (528, 1, .iload_n 3, [], 0),
  (529, 1, .iconst 1, [], 1),
  (530, 1, .iadd, [], 0),
  (531, 1, .iaload, [], 0),
  (532, 1, .aload_n 0, [], 0),
  (533, 1, .iload_n 3, [], 0),
  (534, 1, .iconst 2, [], 2),
  (535, 1, .iadd, [], 0),
  (536, 1, .iaload, [], 0),
  (537, 3, .invokevirtual 68, [138, 3, 1, 7, 1152], 0),
  (540, 3, .if_icmp .eq 572, [759], 0),
  (543, 1, .iconst 0, [], 0),
  (544, 1, .ireturn, [1], 0),
  (545, 1, .aload_n 1, [], 0),
  (546, 1, .aload_n 0, [], 0),
  (547, 1, .iload_n 3, [], 0),
  (548, 1, .iconst 1, [], 1),
  (549, 1, .iadd, [], 0),
  (550, 1, .iaload, [], 0),
  (551, 1, .aload_n 0, [], 0),
  (552, 1, .iload_n 3, [], 0),
  (553, 1, .iconst 2, [], 2),
  (554, 1, .iadd, [], 0),
  (555, 1, .iaload, [], 0),
  (556, 3, .invokevirtual 69, [62, 3, 1, 6, 648], 0),
  (559, 1, .aload_n 2, [], 0),
  (560, 1, .aload_n 0, [], 0),
  (561, 1, .iload_n 3, [], 0),
  (562, 1, .iconst 1, [], 1),
  (563, 1, .iadd, [], 0),
  (564, 1, .iaload, [], 0),
  (565, 1, .aload_n 0, [], 0),
  (566, 1, .iload_n 3, [], 0),
  (567, 1, .iconst 2, [], 2),
  (568, 1, .iadd, [], 0),
  (569, 1, .iaload, [], 0),
  (570, 3, .invokevirtual 72, [139, 3, 1, 7, 1159], 0),
  (573, 3, .if_icmp .eq 539, [759], 0),
  (576, 1, .iconst 0, [], 0),
  (577, 1, .ireturn, [1], 0),
  (578, 1, .aload_n 1, [], 0),
  (579, 3, .invokevirtual 73, [63, 1, 1, 6, 653], 0),
  (582, 1, .aload_n 2, [], 0),
  (583, 3, .invokevirtual 76, [140, 1, 1, 7, 1163], 0),
  (586, 3, .if_icmp .eq 526, [759], 0),
  (589, 1, .iconst 0, [], 0),
  (590, 1, .ireturn, [1], 0),
  (591, 1, .aload_n 1, [], 0),
  (592, 1, .aload_n 0, [], 0),
  (593, 1, .iload_n 3, [], 0),
  (594, 1, .iconst 1, [], 1),
  (595, 1, .iadd, [], 0),
  (596, 1, .iaload, [], 0),
  (597, 1, .aload_n 0, [], 0),
  (598, 1, .iload_n 3, [], 0),
  (599, 1, .iconst 2, [], 2),
  (600, 1, .iadd, [], 0),
  (601, 1, .iaload, [], 0),
  (602, 1, .aload_n 0, [], 0),
  (603, 1, .iload_n 3, [], 0),
  (604, 1, .iconst 3, [], 3),
  (605, 1, .iadd, [], 0),
  (606, 1, .iaload, [], 0),
  (607, 3, .invokevirtual 77, [64, 4, 1, 6, 661], 0),
  (610, 1, .aload_n 2, [], 0),
  (611, 1, .aload_n 0, [], 0),
  (612, 1, .iload_n 3, [], 0),
  (613, 1, .iconst 1, [], 1),
  (614, 1, .iadd, [], 0),
  (615, 1, .iaload, [], 0),
  (616, 1, .aload_n 0, [], 0),
  (617, 1, .iload_n 3, [], 0),
  (618, 1, .iconst 2, [], 2),
  (619, 1, .iadd, [], 0),
  (620, 1, .iaload, [], 0),
  (621, 1, .aload_n 0, [], 0),
  (622, 1, .iload_n 3, [], 0),
  (623, 1, .iconst 3, [], 3),
  (624, 1, .iadd, [], 0),
  (625, 1, .iaload, [], 0),
  (626, 3, .invokevirtual 80, [141, 4, 1, 7, 1167], 0),
  (629, 3, .if_icmp .eq 483, [759], 0),
  (632, 1, .iconst 0, [], 0),
  (633, 1, .ireturn, [1], 0),
  (634, 1, .aload_n 1, [], 0),
  (635, 1, .aload_n 0, [], 0),
  (636, 1, .iload_n 3, [], 0),
  (637, 1, .iconst 1, [], 1),
  (638, 1, .iadd, [], 0),
  (639, 1, .iaload, [], 0),
  (640, 1, .aload_n 0, [], 0),
  (641, 1, .iload_n 3, [], 0),
  (642, 1, .iconst 2, [], 2),
  (643, 1, .iadd, [], 0),
  (644, 1, .iaload, [], 0),
  (645, 1, .aload_n 0, [], 0),
  (646, 1, .iload_n 3, [], 0),
  (647, 1, .iconst 3, [], 3),
  (648, 1, .iadd, [], 0),
  (649, 1, .iaload, [], 0),
  (650, 1, .aload_n 0, [], 0),
  (651, 1, .iload_n 3, [], 0),
  (652, 1, .iconst 4, [], 4),
  (653, 1, .iadd, [], 0),
  (654, 1, .iaload, [], 0),
  (655, 3, .invokevirtual 81, [65, 5, 1, 6, 673], 0),
  (658, 1, .aload_n 2, [], 0),
  (659, 1, .aload_n 0, [], 0),
  (660, 1, .iload_n 3, [], 0),
  (661, 1, .iconst 1, [], 1),
  (662, 1, .iadd, [], 0),
  (663, 1, .iaload, [], 0),
  (664, 1, .aload_n 0, [], 0),
  (665, 1, .iload_n 3, [], 0),
  (666, 1, .iconst 2, [], 2),
  (667, 1, .iadd, [], 0),
  (668, 1, .iaload, [], 0),
  (669, 1, .aload_n 0, [], 0),
  (670, 1, .iload_n 3, [], 0),
  (671, 1, .iconst 3, [], 3),
  (672, 1, .iadd, [], 0),
  (673, 1, .iaload, [], 0),
  (674, 1, .aload_n 0, [], 0),
  (675, 1, .iload_n 3, [], 0),
  (676, 1, .iconst 4, [], 4),
  (677, 1, .iadd, [], 0),
  (678, 1, .iaload, [], 0),
  (679, 3, .invokevirtual 85, [144, 5, 1, 7, 1172], 0),
  (682, 3, .if_icmp .eq 430, [759], 0),
  (685, 1, .iconst 0, [], 0),
  (686, 1, .ireturn, [1], 0),
  (687, 1, .aload_n 1, [], 0),
  (688, 1, .aload_n 0, [], 0),
  (689, 1, .iload_n 3, [], 0),
  (690, 1, .iconst 1, [], 1),
  (691, 1, .iadd, [], 0),
  (692, 1, .iaload, [], 0),
  (693, 3, .invokevirtual 86, [66, 2, 1, 6, 702], 0),
  (696, 1, .aload_n 2, [], 0),
  (697, 1, .aload_n 0, [], 0),
  (698, 1, .iload_n 3, [], 0),
  (699, 1, .iconst 1, [], 1),
  (700, 1, .iadd, [], 0),
  (701, 1, .iaload, [], 0),
  (702, 3, .invokevirtual 89, [145, 2, 1, 7, 1185], 0),
  (705, 3, .if_icmp .eq 407, [759], 0),
  (708, 1, .iconst 0, [], 0),
  (709, 1, .ireturn, [1], 0),
  (710, 1, .aload_n 1, [], 0),
  (711, 3, .invokevirtual 90, [67, 1, 1, 6, 706], 0),
  (714, 1, .aload_n 2, [], 0),
  (715, 3, .invokevirtual 93, [146, 1, 1, 7, 1189], 0),
  (718, 3, .if_icmp .eq 394, [759], 0),
  (721, 1, .iconst 0, [], 0),
  (722, 1, .ireturn, [1], 0),
  (723, 1, .aload_n 1, [], 0),
  (724, 1, .aload_n 0, [], 0),
  (725, 1, .iload_n 3, [], 0),
  (726, 1, .iconst 1, [], 1),
  (727, 1, .iadd, [], 0),
  (728, 1, .iaload, [], 0),
  (729, 1, .aload_n 0, [], 0),
  (730, 1, .iload_n 3, [], 0),
  (731, 1, .iconst 2, [], 2),
  (732, 1, .iadd, [], 0),
  (733, 1, .iaload, [], 0),
  (734, 1, .aload_n 0, [], 0),
  (735, 1, .iload_n 3, [], 0),
  (736, 1, .iconst 3, [], 3),
  (737, 1, .iadd, [], 0),
  (738, 1, .iaload, [], 0),
  (739, 3, .invokevirtual 94, [68, 4, 1, 6, 718], 0),
  (742, 1, .aload_n 2, [], 0),
  (743, 1, .aload_n 0, [], 0),
  (744, 1, .iload_n 3, [], 0),
  (745, 1, .iconst 1, [], 1),
  (746, 1, .iadd, [], 0),
  (747, 1, .iaload, [], 0),
  (748, 1, .aload_n 0, [], 0),
  (749, 1, .iload_n 3, [], 0),
  (750, 1, .iconst 2, [], 2),
  (751, 1, .iadd, [], 0),
  (752, 1, .iaload, [], 0),
  (753, 1, .aload_n 0, [], 0),
  (754, 1, .iload_n 3, [], 0),
  (755, 1, .iconst 3, [], 3),
  (756, 1, .iadd, [], 0),
  (757, 1, .iaload, [], 0),
  (758, 3, .invokevirtual 97, [148, 4, 1, 7, 1193], 0),
  (761, 3, .if_icmp .eq 351, [759], 0),
  (764, 1, .iconst 0, [], 0),
  (765, 1, .ireturn, [1], 0),
  (766, 1, .aload_n 1, [], 0),
  (767, 1, .aload_n 0, [], 0),
  (768, 1, .iload_n 3, [], 0),
  (769, 1, .iconst 1, [], 1),
  (770, 1, .iadd, [], 0),
  (771, 1, .iaload, [], 0),
  (772, 1, .aload_n 0, [], 0),
  (773, 1, .iload_n 3, [], 0),
  (774, 1, .iconst 2, [], 2),
  (775, 1, .iadd, [], 0),
  (776, 1, .iaload, [], 0),
  (777, 1, .aload_n 0, [], 0),
  (778, 1, .iload_n 3, [], 0),
  (779, 1, .iconst 3, [], 3),
  (780, 1, .iadd, [], 0),
  (781, 1, .iaload, [], 0),
  (782, 3, .invokevirtual 98, [69, 4, 1, 6, 748], 0),
  (785, 1, .aload_n 2, [], 0),
  (786, 1, .aload_n 0, [], 0),
  (787, 1, .iload_n 3, [], 0),
  (788, 1, .iconst 1, [], 1),
  (789, 1, .iadd, [], 0),
  (790, 1, .iaload, [], 0),
  (791, 1, .aload_n 0, [], 0),
  (792, 1, .iload_n 3, [], 0),
  (793, 1, .iconst 2, [], 2),
  (794, 1, .iadd, [], 0),
  (795, 1, .iaload, [], 0),
  (796, 1, .aload_n 0, [], 0),
  (797, 1, .iload_n 3, [], 0),
  (798, 1, .iconst 3, [], 3),
  (799, 1, .iadd, [], 0),
  (800, 1, .iaload, [], 0),
  (801, 3, .invokevirtual 101, [149, 4, 1, 7, 1204], 0),
  (804, 3, .if_icmp .eq 308, [759], 0),
  (807, 1, .iconst 0, [], 0),
  (808, 1, .ireturn, [1], 0),
  (809, 1, .aload_n 1, [], 0),
  (810, 1, .aload_n 0, [], 0),
  (811, 1, .iload_n 3, [], 0),
  (812, 1, .iconst 1, [], 1),
  (813, 1, .iadd, [], 0),
  (814, 1, .iaload, [], 0),
  (815, 1, .aload_n 0, [], 0),
  (816, 1, .iload_n 3, [], 0),
  (817, 1, .iconst 2, [], 2),
  (818, 1, .iadd, [], 0),
  (819, 1, .iaload, [], 0),
  (820, 1, .aload_n 0, [], 0),
  (821, 1, .iload_n 3, [], 0),
  (822, 1, .iconst 3, [], 3),
  (823, 1, .iadd, [], 0),
  (824, 1, .iaload, [], 0),
  (825, 3, .invokevirtual 102, [70, 4, 1, 6, 759], 0),
  (828, 1, .aload_n 2, [], 0),
  (829, 1, .aload_n 0, [], 0),
  (830, 1, .iload_n 3, [], 0),
  (831, 1, .iconst 1, [], 1),
  (832, 1, .iadd, [], 0),
  (833, 1, .iaload, [], 0),
  (834, 1, .aload_n 0, [], 0),
  (835, 1, .iload_n 3, [], 0),
  (836, 1, .iconst 2, [], 2),
  (837, 1, .iadd, [], 0),
  (838, 1, .iaload, [], 0),
  (839, 1, .aload_n 0, [], 0),
  (840, 1, .iload_n 3, [], 0),
  (841, 1, .iconst 3, [], 3),
  (842, 1, .iadd, [], 0),
  (843, 1, .iaload, [], 0),
  (844, 3, .invokevirtual 105, [150, 4, 1, 7, 1209], 0),
  (847, 3, .if_icmp .eq 265, [759], 0),
  (850, 1, .iconst 0, [], 0),
  (851, 1, .ireturn, [1], 0),
  (852, 1, .aload_n 1, [], 0),
  (853, 1, .aload_n 0, [], 0),
  (854, 1, .iload_n 3, [], 0),
  (855, 1, .iconst 1, [], 1),
  (856, 1, .iadd, [], 0),
  (857, 1, .iaload, [], 0),
  (858, 1, .aload_n 0, [], 0),
  (859, 1, .iload_n 3, [], 0),
  (860, 1, .iconst 2, [], 2),
  (861, 1, .iadd, [], 0),
  (862, 1, .iaload, [], 0),
  (863, 3, .invokevirtual 106, [71, 3, 1, 6, 763], 0),
  (866, 1, .aload_n 2, [], 0),
  (867, 1, .aload_n 0, [], 0),
  (868, 1, .iload_n 3, [], 0),
  (869, 1, .iconst 1, [], 1),
  (870, 1, .iadd, [], 0),
  (871, 1, .iaload, [], 0),
  (872, 1, .aload_n 0, [], 0),
  (873, 1, .iload_n 3, [], 0),
  (874, 1, .iconst 2, [], 2),
  (875, 1, .iadd, [], 0),
  (876, 1, .iaload, [], 0),
  (877, 3, .invokevirtual 109, [151, 3, 1, 7, 1213], 0),
  (880, 3, .if_icmp .eq 232, [759], 0),
  (883, 1, .iconst 0, [], 0),
  (884, 1, .ireturn, [1], 0),
  (885, 1, .aload_n 1, [], 0),
  (886, 1, .aload_n 0, [], 0),
  (887, 1, .iload_n 3, [], 0),
  (888, 1, .iconst 1, [], 1),
  (889, 1, .iadd, [], 0),
  (890, 1, .iaload, [], 0),
  (891, 1, .aload_n 0, [], 0),
  (892, 1, .iload_n 3, [], 0),
  (893, 1, .iconst 2, [], 2),
  (894, 1, .iadd, [], 0),
  (895, 1, .iaload, [], 0),
  (896, 1, .aload_n 0, [], 0),
  (897, 1, .iload_n 3, [], 0),
  (898, 1, .iconst 3, [], 3),
  (899, 1, .iadd, [], 0),
  (900, 1, .iaload, [], 0),
  (901, 3, .invokevirtual 110, [72, 4, 1, 6, 767], 0),
  (904, 1, .aload_n 2, [], 0),
  (905, 1, .aload_n 0, [], 0),
  (906, 1, .iload_n 3, [], 0),
  (907, 1, .iconst 1, [], 1),
  (908, 1, .iadd, [], 0),
  (909, 1, .iaload, [], 0),
  (910, 1, .aload_n 0, [], 0),
  (911, 1, .iload_n 3, [], 0),
  (912, 1, .iconst 2, [], 2),
  (913, 1, .iadd, [], 0),
  (914, 1, .iaload, [], 0),
  (915, 1, .aload_n 0, [], 0),
  (916, 1, .iload_n 3, [], 0),
  (917, 1, .iconst 3, [], 3),
  (918, 1, .iadd, [], 0),
  (919, 1, .iaload, [], 0),
  (920, 3, .invokevirtual 113, [152, 4, 1, 7, 1218], 0),
  (923, 3, .if_icmp .eq 189, [759], 0),
  (926, 1, .iconst 0, [], 0),
  (927, 1, .ireturn, [1], 0),
  (928, 1, .aload_n 1, [], 0),
  (929, 3, .invokevirtual 114, [73, 1, 1, 6, 775], 0),
  (932, 1, .aload_n 2, [], 0),
  (933, 3, .invokevirtual 117, [153, 1, 1, 7, 1223], 0),
  (936, 3, .if_icmp .eq 176, [759], 0),
  (939, 1, .iconst 0, [], 0),
  (940, 1, .ireturn, [1], 0),
  (941, 1, .aload_n 1, [], 0),
  (942, 1, .aload_n 0, [], 0),
  (943, 1, .iload_n 3, [], 0),
  (944, 1, .iconst 1, [], 1),
  (945, 1, .iadd, [], 0),
  (946, 1, .iaload, [], 0),
  (947, 3, .invokevirtual 118, [74, 2, 1, 6, 779], 0),
  (950, 1, .aload_n 2, [], 0),
  (951, 1, .aload_n 0, [], 0),
  (952, 1, .iload_n 3, [], 0),
  (953, 1, .iconst 1, [], 1),
  (954, 1, .iadd, [], 0),
  (955, 1, .iaload, [], 0),
  (956, 3, .invokevirtual 121, [156, 2, 1, 7, 1227], 0),
  (959, 3, .if_icmp .eq 153, [759], 0),
  (962, 1, .iconst 0, [], 0),
  (963, 1, .ireturn, [1], 0),
  (964, 1, .aload_n 1, [], 0),
  (965, 1, .aload_n 0, [], 0),
  (966, 1, .iload_n 3, [], 0),
  (967, 1, .iconst 1, [], 1),
  (968, 1, .iadd, [], 0),
  (969, 1, .iaload, [], 0),
  (970, 1, .aload_n 0, [], 0),
  (971, 1, .iload_n 3, [], 0),
  (972, 1, .iconst 2, [], 2),
  (973, 1, .iadd, [], 0),
  (974, 1, .iaload, [], 0),
  (975, 3, .invokevirtual 122, [75, 3, 1, 6, 795], 0),
  (978, 1, .aload_n 2, [], 0),
  (979, 1, .aload_n 0, [], 0),
  (980, 1, .iload_n 3, [], 0),
  (981, 1, .iconst 1, [], 1),
  (982, 1, .iadd, [], 0),
  (983, 1, .iaload, [], 0),
  (984, 1, .aload_n 0, [], 0),
  (985, 1, .iload_n 3, [], 0),
  (986, 1, .iconst 2, [], 2),
  (987, 1, .iadd, [], 0),
  (988, 1, .iaload, [], 0),
  (989, 3, .invokevirtual 125, [157, 3, 1, 7, 1238], 0),
  (992, 3, .if_icmp .eq 120, [759], 0),
  (995, 1, .iconst 0, [], 0),
  (996, 1, .ireturn, [1], 0),
  (997, 1, .aload_n 1, [], 0),
  (998, 1, .aload_n 0, [], 0),
  (999, 1, .iload_n 3, [], 0),
  (1000, 1, .iconst 1, [], 1),
  (1001, 1, .iadd, [], 0),
  (1002, 1, .iaload, [], 0),
  (1003, 3, .invokevirtual 126, [76, 2, 1, 6, 803], 0),
  (1006, 1, .aload_n 2, [], 0),
  (1007, 1, .aload_n 0, [], 0),
  (1008, 1, .iload_n 3, [], 0),
  (1009, 1, .iconst 1, [], 1),
  (1010, 1, .iadd, [], 0),
  (1011, 1, .iaload, [], 0),
  (1012, 3, .invokevirtual 129, [158, 2, 1, 7, 1242], 0),
  (1015, 3, .if_icmp .eq 97, [759], 0),
  (1018, 1, .iconst 0, [], 0),
  (1019, 1, .ireturn, [1], 0),
  (1020, 1, .aload_n 1, [], 0),
  (1021, 1, .aload_n 0, [], 0),
  (1022, 1, .iload_n 3, [], 0),
  (1023, 1, .iconst 1, [], 1),
  (1024, 1, .iadd, [], 0),
  (1025, 1, .iaload, [], 0),
  (1026, 1, .aload_n 0, [], 0),
  (1027, 1, .iload_n 3, [], 0),
  (1028, 1, .iconst 2, [], 2),
  (1029, 1, .iadd, [], 0),
  (1030, 1, .iaload, [], 0),
  (1031, 1, .aload_n 0, [], 0),
  (1032, 1, .iload_n 3, [], 0),
  (1033, 1, .iconst 3, [], 3),
  (1034, 1, .iadd, [], 0),
  (1035, 1, .iaload, [], 0),
  (1036, 3, .invokevirtual 130, [77, 4, 1, 6, 807], 0),
  (1039, 1, .aload_n 2, [], 0),
  (1040, 1, .aload_n 0, [], 0),
  (1041, 1, .iload_n 3, [], 0),
  (1042, 1, .iconst 1, [], 1),
  (1043, 1, .iadd, [], 0),
  (1044, 1, .iaload, [], 0),
  (1045, 1, .aload_n 0, [], 0),
  (1046, 1, .iload_n 3, [], 0),
  (1047, 1, .iconst 2, [], 2),
  (1048, 1, .iadd, [], 0),
  (1049, 1, .iaload, [], 0),
  (1050, 1, .aload_n 0, [], 0),
  (1051, 1, .iload_n 3, [], 0),
  (1052, 1, .iconst 3, [], 3),
  (1053, 1, .iadd, [], 0),
  (1054, 1, .iaload, [], 0),
  (1055, 3, .invokevirtual 133, [159, 4, 1, 7, 1246], 0),
  (1058, 3, .if_icmp .eq 54, [759], 0),
  (1061, 1, .iconst 0, [], 0),
  (1062, 1, .ireturn, [1], 0),
  (1063, 1, .aload_n 1, [], 0),
  (1064, 3, .invokevirtual 134, [78, 1, 1, 6, 820], 0),
  (1067, 1, .aload_n 2, [], 0),
  (1068, 3, .invokevirtual 137, [161, 1, 1, 7, 1253], 0),
  (1071, 3, .if_icmp .eq 41, [759], 0),
  (1074, 1, .iconst 0, [], 0),
  (1075, 1, .ireturn, [1], 0),
  (1076, 1, .aload_n 1, [], 0),
  (1077, 3, .invokevirtual 138, [79, 1, 1, 6, 829], 0),
  (1080, 1, .aload_n 2, [], 0),
  (1081, 3, .invokevirtual 141, [162, 1, 1, 7, 1261], 0),
  (1084, 3, .if_icmp .eq 28, [759], 0),
  (1087, 1, .iconst 0, [], 0),
  (1088, 1, .ireturn, [1], 0),
  (1089, 1, .aload_n 1, [], 0),
  (1090, 1, .aload_n 0, [], 0),
  (1091, 1, .iload_n 3, [], 0),
  (1092, 1, .iconst 1, [], 1),
  (1093, 1, .iadd, [], 0),
  (1094, 1, .iaload, [], 0),
  (1095, 3, .invokevirtual 142, [80, 2, 1, 6, 833], 0),
  (1098, 1, .aload_n 2, [], 0),
  (1099, 1, .aload_n 0, [], 0),
  (1100, 1, .iload_n 3, [], 0),
  (1101, 1, .iconst 1, [], 1),
  (1102, 1, .iadd, [], 0),
  (1103, 1, .iaload, [], 0),
  (1104, 3, .invokevirtual 145, [163, 2, 1, 7, 1265], 0),
  (1107, 3, .if_icmp .eq 5, [759], 0),
  (1110, 1, .iconst 0, [], 0),
  (1111, 1, .ireturn, [1], 0),
  (1112, 3, .iinc 3 5, [], 5),
  (1115, 3, .goto (-1097), [2], 0),
  (1118, 1, .iconst 1, [], 1),
  (1119, 1, .ireturn, [1], 0)]
end
section
/-! THE METHODS' TABLE and what is checked of each row; by program -/
abbrev am_E : Type := am_M × List am_W
def eA_add : am_E := ((⟨"RoomsOfHours$Acts", "add", "(III)Z"⟩, prog_2_method_2_code, 4, some .boolean, false, [582, 580, 581, 64]), cA_add)
def eA_copy : am_E := ((⟨"RoomsOfHours$Acts", "copy", "(LRoomsOfHours$Acts;)V"⟩, prog_2_method_3_code, 2, none, false, [827, 825, 826, 64]), cA_copy)
def eK_begin : am_E := ((⟨"RoomsOfHours$Course", "begin", "(LRoomsOfHours$House;I)V"⟩, prog_3_method_2_code, 4, none, false, [429, 427, 428, 63]), cK_begin)
def eK_perform : am_E := ((⟨"RoomsOfHours$Course", "perform", "(III)V"⟩, prog_3_method_3_code, 4, none, false, [586, 584, 585, 63]), cK_perform)
def eK_canGo : am_E := ((⟨"RoomsOfHours$Course", "canGo", "(II)Z"⟩, prog_3_method_4_code, 3, some .boolean, false, [598, 596, 597, 63]), cK_canGo)
def eK_canTake : am_E := ((⟨"RoomsOfHours$Course", "canTake", "(II)Z"⟩, prog_3_method_5_code, 3, some .boolean, false, [618, 616, 617, 63]), cK_canTake)
def eK_canPut : am_E := ((⟨"RoomsOfHours$Course", "canPut", "(II)Z"⟩, prog_3_method_6_code, 3, some .boolean, false, [627, 625, 626, 63]), cK_canPut)
def eK_pass : am_E := ((⟨"RoomsOfHours$Course", "pass", "(II)V"⟩, prog_3_method_7_code, 4, none, false, [590, 589, 15, 63]), cK_pass)
def eK_cross : am_E := ((⟨"RoomsOfHours$Course", "cross", "(II)V"⟩, prog_3_method_8_code, 3, none, false, [606, 605, 17, 63]), cK_cross)
def eK_enter : am_E := ((⟨"RoomsOfHours$Course", "enter", "(II)V"⟩, prog_3_method_9_code, 3, none, false, [433, 432, 8, 63]), cK_enter)
def eK_pick : am_E := ((⟨"RoomsOfHours$Course", "pick", "(II)V"⟩, prog_3_method_10_code, 3, none, false, [622, 621, 18, 63]), cK_pick)
def eK_drop : am_E := ((⟨"RoomsOfHours$Course", "drop", "(II)V"⟩, prog_3_method_11_code, 3, none, false, [631, 630, 19, 63]), cK_drop)
def eK_hourTicksOf : am_E := ((⟨"RoomsOfHours$Course", "hourTicksOf", "(I)I"⟩, prog_3_method_12_code, 2, some .int, false, [594, 593, 16, 63]), cK_hourTicksOf)
def eK_partsOfTickIn : am_E := ((⟨"RoomsOfHours$Course", "partsOfTickIn", "(I)I"⟩, prog_3_method_13_code, 2, some .int, false, [565, 564, 13, 63]), cK_partsOfTickIn)
def eK_wornAt : am_E := ((⟨"RoomsOfHours$Course", "wornAt", "(II)I"⟩, prog_3_method_14_code, 3, some .int, false, [561, 559, 560, 63]), cK_wornAt)
def eK_thingsOf : am_E := ((⟨"RoomsOfHours$Course", "thingsOf", "(I)I"⟩, prog_3_method_15_code, 4, some .int, false, [541, 539, 540, 63]), cK_thingsOf)
def eK_visitsOf : am_E := ((⟨"RoomsOfHours$Course", "visitsOf", "(I)I"⟩, prog_3_method_16_code, 4, some .int, false, [545, 543, 544, 63]), cK_visitsOf)
def eK_firstShared : am_E := ((⟨"RoomsOfHours$Course", "firstShared", "(II)I"⟩, prog_3_method_17_code, 4, some .int, false, [669, 667, 668, 63]), cK_firstShared)
def eH_readText : am_E := ((⟨"RoomsOfHours$House", "readText", "([CI)I"⟩, prog_4_method_2_code, 6, some .int, false, [384, 382, 383, 62]), cH_readText)
def eH_readItem : am_E := ((⟨"RoomsOfHours$House", "readItem", "([CII)I"⟩, prog_4_method_3_code, 9, some .int, false, [388, 387, 0, 62]), cH_readItem)
def eH_numbersOf : am_E := ((⟨"RoomsOfHours$House", "numbersOf", "(I)I"⟩, prog_4_method_4_code, 1, some .int, true, [391, 390, 0, 62]), cH_numbersOf)
def eH_figuresAt : am_E := ((⟨"RoomsOfHours$House", "figuresAt", "([CII)I"⟩, prog_4_method_5_code, 5, some .int, true, [394, 393, 0, 62]), cH_figuresAt)
def eH_numberAt : am_E := ((⟨"RoomsOfHours$House", "numberAt", "([CII)I"⟩, prog_4_method_6_code, 5, some .int, true, [397, 396, 0, 62]), cH_numberAt)
def eH_addItem : am_E := ((⟨"RoomsOfHours$House", "addItem", "(I)Z"⟩, prog_4_method_7_code, 2, some .boolean, false, [401, 400, 1, 62]), cH_addItem)
def eH_addRoom : am_E := ((⟨"RoomsOfHours$House", "addRoom", "(III)Z"⟩, prog_4_method_8_code, 4, some .boolean, false, [405, 404, 2, 62]), cH_addRoom)
def eH_addDoor : am_E := ((⟨"RoomsOfHours$House", "addDoor", "(IIII)Z"⟩, prog_4_method_9_code, 5, some .boolean, false, [409, 408, 3, 62]), cH_addDoor)
def eH_addPerson : am_E := ((⟨"RoomsOfHours$House", "addPerson", "(II)Z"⟩, prog_4_method_10_code, 3, some .boolean, false, [413, 412, 4, 62]), cH_addPerson)
def eH_addThing : am_E := ((⟨"RoomsOfHours$House", "addThing", "(III)Z"⟩, prog_4_method_11_code, 4, some .boolean, false, [417, 416, 5, 62]), cH_addThing)
def eH_setCrossing : am_E := ((⟨"RoomsOfHours$House", "setCrossing", "(I)Z"⟩, prog_4_method_12_code, 2, some .boolean, false, [421, 420, 6, 62]), cH_setCrossing)
def eH_isDoorOf : am_E := ((⟨"RoomsOfHours$House", "isDoorOf", "(II)Z"⟩, prog_4_method_13_code, 3, some .boolean, false, [602, 600, 601, 62]), cH_isDoorOf)
def eH_behind : am_E := ((⟨"RoomsOfHours$House", "behind", "(II)I"⟩, prog_4_method_14_code, 3, some .int, false, [614, 612, 613, 62]), cH_behind)
def eH_leadTicks : am_E := ((⟨"RoomsOfHours$House", "leadTicks", "(II)I"⟩, prog_4_method_15_code, 3, some .int, false, [610, 608, 609, 62]), cH_leadTicks)
def eH_ticksThrough : am_E := ((⟨"RoomsOfHours$House", "ticksThrough", "(II)I"⟩, prog_4_method_16_code, 3, some .int, false, [697, 695, 696, 62]), cH_ticksThrough)
def eH_worthOf : am_E := ((⟨"RoomsOfHours$House", "worthOf", "(II)I"⟩, prog_4_method_17_code, 4, some .int, false, [569, 567, 568, 62]), cH_worthOf)
def eS_add : am_E := ((⟨"RoomsOfHours$Sights", "add", "(III)Z"⟩, prog_5_method_2_code, 4, some .boolean, false, [774, 772, 773, 65]), cS_add)
def eS_pacesOf : am_E := ((⟨"RoomsOfHours$Sights", "pacesOf", "(I)I"⟩, prog_5_method_3_code, 4, some .int, false, [786, 784, 785, 65]), cS_pacesOf)
def eS_isStillSo : am_E := ((⟨"RoomsOfHours$Sights", "isStillSo", "(II)Z"⟩, prog_5_method_4_code, 4, some .boolean, false, [790, 789, 28, 65]), cS_isStillSo)
def eS_mostAlike : am_E := ((⟨"RoomsOfHours$Sights", "mostAlike", "(II)I"⟩, prog_5_method_5_code, 8, some .int, false, [802, 800, 801, 65]), cS_mostAlike)
def eS_shownBy : am_E := ((⟨"RoomsOfHours$Sights", "shownBy", "(II)I"⟩, prog_5_method_6_code, 4, some .int, true, [793, 792, 0, 65]), cS_shownBy)
def eT_goAll : am_E := ((⟨"RoomsOfHours$Tour", "goAll", "(LRoomsOfHours$House;III)V"⟩, prog_6_method_2_code, 6, none, false, [725, 723, 724, 67]), cT_goAll)
def eT_step : am_E := ((⟨"RoomsOfHours$Tour", "step", "(LRoomsOfHours$House;I)V"⟩, prog_6_method_3_code, 5, none, false, [740, 739, 25, 67]), cT_step)
def eT_leave : am_E := ((⟨"RoomsOfHours$Tour", "leave", "(LRoomsOfHours$House;II)V"⟩, prog_6_method_4_code, 7, none, false, [744, 743, 26, 67]), cT_leave)
def eT_stayOrNot : am_E := ((⟨"RoomsOfHours$Tour", "stayOrNot", "(LRoomsOfHours$House;I)V"⟩, prog_6_method_5_code, 7, none, false, [731, 730, 23, 67]), cT_stayOrNot)
def eT_noteDone : am_E := ((⟨"RoomsOfHours$Tour", "noteDone", "(LRoomsOfHours$House;II)V"⟩, prog_6_method_6_code, 6, none, false, [736, 735, 24, 67]), cT_noteDone)
def eW_begin : am_E := ((⟨"RoomsOfHours$Walk", "begin", "(II)V"⟩, prog_7_method_2_code, 3, none, false, [680, 678, 679, 66]), cW_begin)
def eW_step : am_E := ((⟨"RoomsOfHours$Walk", "step", "(LRoomsOfHours$House;)V"⟩, prog_7_method_3_code, 3, none, false, [688, 686, 687, 66]), cW_step)
def eW_offer : am_E := ((⟨"RoomsOfHours$Walk", "offer", "(LRoomsOfHours$House;II)V"⟩, prog_7_method_4_code, 7, none, false, [692, 691, 21, 66]), cW_offer)
def eW_isEven : am_E := ((⟨"RoomsOfHours$Walk", "isEven", "(LRoomsOfHours$House;)Z"⟩, prog_7_method_5_code, 3, some .boolean, false, [713, 711, 712, 66]), cW_isEven)
def eW_spread : am_E := ((⟨"RoomsOfHours$Walk", "spread", "(LRoomsOfHours$House;)V"⟩, prog_7_method_6_code, 6, none, false, [717, 716, 22, 66]), cW_spread)
def eC_write : am_E := ((⟨"RoomsOfHours", "write", "(I)I"⟩, prog_1_method_2_code, 2, some .int, false, [478, 476, 477, 61]), cC_write)
def eC_wipe : am_E := ((⟨"RoomsOfHours", "wipe", "()I"⟩, prog_1_method_3_code, 2, some .int, false, [482, 480, 481, 61]), cC_wipe)
def eC_fault : am_E := ((⟨"RoomsOfHours", "fault", "()I"⟩, prog_1_method_4_code, 1, some .int, false, [486, 484, 485, 61]), cC_fault)
def eC_lay : am_E := ((⟨"RoomsOfHours", "lay", "()I"⟩, prog_1_method_5_code, 1, some .int, false, [490, 488, 489, 61]), cC_lay)
def eC_room : am_E := ((⟨"RoomsOfHours", "room", "(II)I"⟩, prog_1_method_6_code, 3, some .int, false, [494, 492, 493, 61]), cC_room)
def eC_clock : am_E := ((⟨"RoomsOfHours", "clock", "(III)I"⟩, prog_1_method_7_code, 7, some .int, false, [505, 503, 504, 61]), cC_clock)
def eC_door : am_E := ((⟨"RoomsOfHours", "door", "(II)I"⟩, prog_1_method_8_code, 3, some .int, false, [521, 519, 520, 61]), cC_door)
def eC_person : am_E := ((⟨"RoomsOfHours", "person", "(II)I"⟩, prog_1_method_9_code, 3, some .int, false, [529, 527, 528, 61]), cC_person)
def eC_thing : am_E := ((⟨"RoomsOfHours", "thing", "(II)I"⟩, prog_1_method_10_code, 3, some .int, false, [549, 547, 548, 61]), cC_thing)
def eC_worth : am_E := ((⟨"RoomsOfHours", "worth", "(II)I"⟩, prog_1_method_11_code, 3, some .int, false, [557, 555, 556, 61]), cC_worth)
def eC_stay : am_E := ((⟨"RoomsOfHours", "stay", "(II)I"⟩, prog_1_method_12_code, 3, some .int, false, [574, 572, 573, 61]), cC_stay)
def eC_go : am_E := ((⟨"RoomsOfHours", "go", "(II)I"⟩, prog_1_method_13_code, 3, some .int, false, [635, 633, 634, 61]), cC_go)
def eC_take : am_E := ((⟨"RoomsOfHours", "take", "(II)I"⟩, prog_1_method_14_code, 3, some .int, false, [640, 638, 639, 61]), cC_take)
def eC_put : am_E := ((⟨"RoomsOfHours", "put", "(II)I"⟩, prog_1_method_15_code, 3, some .int, false, [651, 649, 650, 61]), cC_put)
def eC_undo : am_E := ((⟨"RoomsOfHours", "undo", "()I"⟩, prog_1_method_16_code, 1, some .int, false, [656, 654, 655, 61]), cC_undo)
def eC_meet : am_E := ((⟨"RoomsOfHours", "meet", "(III)I"⟩, prog_1_method_17_code, 10, some .int, false, [664, 662, 663, 61]), cC_meet)
def eC_early : am_E := ((⟨"RoomsOfHours", "early", "(IIII)I"⟩, prog_1_method_18_code, 9, some .int, false, [676, 674, 675, 61]), cC_early)
def eC_ring : am_E := ((⟨"RoomsOfHours", "ring", "(I)I"⟩, prog_1_method_19_code, 7, some .int, false, [705, 703, 704, 61]), cC_ring)
def eC_even : am_E := ((⟨"RoomsOfHours", "even", "()I"⟩, prog_1_method_20_code, 1, some .int, false, [709, 707, 708, 61]), cC_even)
def eC_round : am_E := ((⟨"RoomsOfHours", "round", "(III)I"⟩, prog_1_method_21_code, 4, some .int, false, [721, 719, 720, 61]), cC_round)
def eC_hour : am_E := ((⟨"RoomsOfHours", "hour", "(III)I"⟩, prog_1_method_22_code, 6, some .int, false, [751, 749, 750, 61]), cC_hour)
def eC_agreed : am_E := ((⟨"RoomsOfHours", "agreed", "(III)I"⟩, prog_1_method_23_code, 8, some .int, false, [762, 760, 761, 61]), cC_agreed)
def eC_shelf : am_E := ((⟨"RoomsOfHours", "shelf", "(II)I"⟩, prog_1_method_24_code, 8, some .int, false, [766, 764, 765, 61]), cC_shelf)
def eC_seen : am_E := ((⟨"RoomsOfHours", "seen", "(III)I"⟩, prog_1_method_25_code, 4, some .int, false, [770, 768, 769, 61]), cC_seen)
def eC_forget : am_E := ((⟨"RoomsOfHours", "forget", "()I"⟩, prog_1_method_26_code, 2, some .int, false, [778, 776, 777, 61]), cC_forget)
def eC_paces : am_E := ((⟨"RoomsOfHours", "paces", "(I)I"⟩, prog_1_method_27_code, 2, some .int, false, [782, 780, 781, 61]), cC_paces)
def eC_look : am_E := ((⟨"RoomsOfHours", "look", "(II)I"⟩, prog_1_method_28_code, 8, some .int, false, [798, 796, 797, 61]), cC_look)
def eC_mended : am_E := ((⟨"RoomsOfHours", "mended", "(I)I"⟩, prog_1_method_29_code, 4, some .int, false, [806, 804, 805, 61]), cC_mended)
def eC_day : am_E := ((⟨"RoomsOfHours", "day", "(III)I"⟩, prog_1_method_30_code, 9, some .int, false, [810, 808, 809, 61]), cC_day)
def eC_keep : am_E := ((⟨"RoomsOfHours", "keep", "()I"⟩, prog_1_method_31_code, 1, some .int, false, [823, 821, 822, 61]), cC_keep)
def eC_back : am_E := ((⟨"RoomsOfHours", "back", "()I"⟩, prog_1_method_32_code, 1, some .int, false, [832, 830, 831, 61]), cC_back)
def eC_count : am_E := ((⟨"RoomsOfHours", "count", "(I)I"⟩, prog_1_method_33_code, 2, some .int, false, [836, 834, 835, 61]), cC_count)
def eC_moveIn : am_E := ((⟨"RoomsOfHours", "moveIn", "()V"⟩, prog_1_method_34_code, 2, none, false, [425, 424, 7, 61]), cC_moveIn)
def eC_doAgain : am_E := ((⟨"RoomsOfHours", "doAgain", "(LRoomsOfHours$Course;I)V"⟩, prog_1_method_35_code, 4, none, false, [660, 659, 20, 61]), cC_doAgain)
def eC_act : am_E := ((⟨"RoomsOfHours", "act", "(III)Z"⟩, prog_1_method_36_code, 4, some .boolean, false, [578, 577, 14, 61]), cC_act)
def eC_nextOwnHour : am_E := ((⟨"RoomsOfHours", "nextOwnHour", "(II)I"⟩, prog_1_method_37_code, 4, some .int, false, [758, 757, 27, 61]), cC_nextOwnHour)
def eC_nextTick : am_E := ((⟨"RoomsOfHours", "nextTick", "(III)I"⟩, prog_1_method_38_code, 4, some .int, true, [754, 753, 0, 61]), cC_nextTick)
def eC_drawOf : am_E := ((⟨"RoomsOfHours", "drawOf", "(II)I"⟩, prog_1_method_39_code, 4, some .int, true, [813, 812, 0, 61]), cC_drawOf)
def eC_commonDivisor : am_E := ((⟨"RoomsOfHours", "commonDivisor", "(II)I"⟩, prog_1_method_40_code, 6, some .int, true, [514, 513, 0, 61]), cC_commonDivisor)
def eC_told : am_E := ((⟨"RoomsOfHours", "told", "(I)I"⟩, prog_1_method_41_code, 1, some .int, true, [536, 535, 0, 61]), cC_told)
def eC_isOneOf : am_E := ((⟨"RoomsOfHours", "isOneOf", "(II)Z"⟩, prog_1_method_42_code, 2, some .boolean, true, [501, 500, 0, 61]), cC_isOneOf)
def eC_isTickToTell : am_E := ((⟨"RoomsOfHours", "isTickToTell", "(I)Z"⟩, prog_1_method_43_code, 1, some .boolean, true, [508, 507, 0, 61]), cC_isTickToTell)
def eC_isRoom : am_E := ((⟨"RoomsOfHours", "isRoom", "(I)Z"⟩, prog_1_method_44_code, 2, some .boolean, false, [498, 497, 9, 61]), cC_isRoom)
def eC_isDoor : am_E := ((⟨"RoomsOfHours", "isDoor", "(I)Z"⟩, prog_1_method_45_code, 2, some .boolean, false, [525, 524, 10, 61]), cC_isDoor)
def eC_isPerson : am_E := ((⟨"RoomsOfHours", "isPerson", "(I)Z"⟩, prog_1_method_46_code, 2, some .boolean, false, [533, 532, 11, 61]), cC_isPerson)
def eC_isThing : am_E := ((⟨"RoomsOfHours", "isThing", "(I)Z"⟩, prog_1_method_47_code, 2, some .boolean, false, [553, 552, 12, 61]), cC_isThing)
def eM_in : am_E := ((⟨"RoomsOfHoursModel", "in", "(JJJ)Z"⟩, prog_9_method_2_code, 6, some .boolean, true, [1047, 1046, 0, 73]), cM_in)
def eM_has : am_E := ((⟨"RoomsOfHoursModel", "has", "(II)Z"⟩, prog_9_method_3_code, 2, some .boolean, true, [1203, 1202, 0, 73]), cM_has)
def eM_noHouse : am_E := ((⟨"RoomsOfHoursModel", "noHouse", "(I)V"⟩, prog_9_method_4_code, 2, none, false, [846, 845, 29, 73]), cM_noHouse)
def eM_addRoom : am_E := ((⟨"RoomsOfHoursModel", "addRoom", "(IIII)V"⟩, prog_9_method_5_code, 5, none, false, [850, 849, 30, 73]), cM_addRoom)
def eM_addDoor : am_E := ((⟨"RoomsOfHoursModel", "addDoor", "(IIIII)V"⟩, prog_9_method_6_code, 6, none, false, [854, 853, 31, 73]), cM_addDoor)
def eM_write : am_E := ((⟨"RoomsOfHoursModel", "write", "(I)I"⟩, prog_9_method_7_code, 2, some .int, false, [1042, 1040, 1041, 73]), cM_write)
def eM_wipe : am_E := ((⟨"RoomsOfHoursModel", "wipe", "()I"⟩, prog_9_method_8_code, 2, some .int, false, [1051, 1049, 1050, 73]), cM_wipe)
def eM_letterAt : am_E := ((⟨"RoomsOfHoursModel", "letterAt", "(I)I"⟩, prog_9_method_9_code, 2, some .int, false, [1067, 1066, 46, 73]), cM_letterAt)
def eM_figures : am_E := ((⟨"RoomsOfHoursModel", "figures", "(I)Z"⟩, prog_9_method_10_code, 5, some .boolean, false, [1071, 1070, 47, 73]), cM_figures)
def eM_item : am_E := ((⟨"RoomsOfHoursModel", "item", "()Z"⟩, prog_9_method_11_code, 2, some .boolean, false, [1063, 1062, 45, 73]), cM_item)
def eM_readAll : am_E := ((⟨"RoomsOfHoursModel", "readAll", "()I"⟩, prog_9_method_12_code, 2, some .int, false, [1059, 1058, 44, 73]), cM_readAll)
def eM_fault : am_E := ((⟨"RoomsOfHoursModel", "fault", "()I"⟩, prog_9_method_13_code, 1, some .int, false, [1055, 1053, 1054, 73]), cM_fault)
def eM_lay : am_E := ((⟨"RoomsOfHoursModel", "lay", "()I"⟩, prog_9_method_14_code, 2, some .int, false, [1079, 1077, 1078, 73]), cM_lay)
def eM_isRoom : am_E := ((⟨"RoomsOfHoursModel", "isRoom", "(I)Z"⟩, prog_9_method_15_code, 2, some .boolean, false, [1087, 1086, 48, 73]), cM_isRoom)
def eM_isDoor : am_E := ((⟨"RoomsOfHoursModel", "isDoor", "(I)Z"⟩, prog_9_method_16_code, 2, some .boolean, false, [1108, 1107, 49, 73]), cM_isDoor)
def eM_isPerson : am_E := ((⟨"RoomsOfHoursModel", "isPerson", "(I)Z"⟩, prog_9_method_17_code, 2, some .boolean, false, [1116, 1115, 50, 73]), cM_isPerson)
def eM_isThing : am_E := ((⟨"RoomsOfHoursModel", "isThing", "(I)Z"⟩, prog_9_method_18_code, 2, some .boolean, false, [1129, 1128, 52, 73]), cM_isThing)
def eM_hourOf : am_E := ((⟨"RoomsOfHoursModel", "hourOf", "(I)I"⟩, prog_9_method_19_code, 2, some .int, false, [874, 873, 36, 73]), cM_hourOf)
def eM_oldBy : am_E := ((⟨"RoomsOfHoursModel", "oldBy", "(II)I"⟩, prog_9_method_20_code, 3, some .int, false, [898, 897, 42, 73]), cM_oldBy)
def eM_goBy : am_E := ((⟨"RoomsOfHoursModel", "goBy", "(II)V"⟩, prog_9_method_21_code, 4, none, false, [870, 869, 35, 73]), cM_goBy)
def eM_isBeside : am_E := ((⟨"RoomsOfHoursModel", "isBeside", "(II)Z"⟩, prog_9_method_22_code, 3, some .boolean, false, [882, 881, 38, 73]), cM_isBeside)
def eM_leadFrom : am_E := ((⟨"RoomsOfHoursModel", "leadFrom", "(II)I"⟩, prog_9_method_23_code, 3, some .int, false, [886, 885, 39, 73]), cM_leadFrom)
def eM_beyond : am_E := ((⟨"RoomsOfHoursModel", "beyond", "(II)I"⟩, prog_9_method_24_code, 3, some .int, false, [890, 889, 40, 73]), cM_beyond)
def eM_comeIn : am_E := ((⟨"RoomsOfHoursModel", "comeIn", "(II)V"⟩, prog_9_method_25_code, 4, none, false, [862, 861, 33, 73]), cM_comeIn)
def eM_goDoor : am_E := ((⟨"RoomsOfHoursModel", "goDoor", "(II)Z"⟩, prog_9_method_26_code, 4, some .boolean, false, [878, 877, 37, 73]), cM_goDoor)
def eM_takeUp : am_E := ((⟨"RoomsOfHoursModel", "takeUp", "(II)Z"⟩, prog_9_method_27_code, 3, some .boolean, false, [894, 893, 41, 73]), cM_takeUp)
def eM_putDown : am_E := ((⟨"RoomsOfHoursModel", "putDown", "(II)Z"⟩, prog_9_method_28_code, 3, some .boolean, false, [902, 901, 43, 73]), cM_putDown)
def eM_doAct : am_E := ((⟨"RoomsOfHoursModel", "doAct", "(III)Z"⟩, prog_9_method_29_code, 4, some .boolean, false, [866, 865, 34, 73]), cM_doAct)
def eM_goAll : am_E := ((⟨"RoomsOfHoursModel", "goAll", "()V"⟩, prog_9_method_30_code, 2, none, false, [858, 857, 32, 73]), cM_goAll)
def eM_common : am_E := ((⟨"RoomsOfHoursModel", "common", "(II)I"⟩, prog_9_method_31_code, 5, some .int, true, [1100, 1099, 0, 73]), cM_common)
def eM_room : am_E := ((⟨"RoomsOfHoursModel", "room", "(II)I"⟩, prog_9_method_32_code, 3, some .int, false, [1083, 1081, 1082, 73]), cM_room)
def eM_modulo : am_E := ((⟨"RoomsOfHoursModel", "modulo", "(II)I"⟩, prog_9_method_33_code, 2, some .int, true, [1097, 1096, 0, 73]), cM_modulo)
def eM_clock : am_E := ((⟨"RoomsOfHoursModel", "clock", "(III)I"⟩, prog_9_method_34_code, 7, some .int, false, [1092, 1090, 1091, 73]), cM_clock)
def eM_door : am_E := ((⟨"RoomsOfHoursModel", "door", "(II)I"⟩, prog_9_method_35_code, 3, some .int, false, [1104, 1102, 1103, 73]), cM_door)
def eM_thingsOf : am_E := ((⟨"RoomsOfHoursModel", "thingsOf", "(I)I"⟩, prog_9_method_36_code, 4, some .int, false, [1121, 1120, 51, 73]), cM_thingsOf)
def eM_person : am_E := ((⟨"RoomsOfHoursModel", "person", "(II)I"⟩, prog_9_method_37_code, 3, some .int, false, [1112, 1110, 1111, 73]), cM_person)
def eM_thing : am_E := ((⟨"RoomsOfHoursModel", "thing", "(II)I"⟩, prog_9_method_38_code, 3, some .int, false, [1125, 1123, 1124, 73]), cM_thing)
def eM_worthOf : am_E := ((⟨"RoomsOfHoursModel", "worthOf", "(II)I"⟩, prog_9_method_39_code, 4, some .int, false, [1138, 1137, 53, 73]), cM_worthOf)
def eM_worth : am_E := ((⟨"RoomsOfHoursModel", "worth", "(II)I"⟩, prog_9_method_40_code, 3, some .int, false, [1134, 1132, 1133, 73]), cM_worth)
def eM_note : am_E := ((⟨"RoomsOfHoursModel", "note", "(III)V"⟩, prog_9_method_41_code, 4, none, false, [1147, 1146, 54, 73]), cM_note)
def eM_bits : am_E := ((⟨"RoomsOfHoursModel", "bits", "(I)I"⟩, prog_9_method_42_code, 3, some .int, true, [1158, 1157, 0, 73]), cM_bits)
def eM_stay : am_E := ((⟨"RoomsOfHoursModel", "stay", "(II)I"⟩, prog_9_method_43_code, 3, some .int, false, [1142, 1140, 1141, 73]), cM_stay)
def eM_go : am_E := ((⟨"RoomsOfHoursModel", "go", "(II)I"⟩, prog_9_method_44_code, 3, some .int, false, [1151, 1149, 1150, 73]), cM_go)
def eM_take : am_E := ((⟨"RoomsOfHoursModel", "take", "(II)I"⟩, prog_9_method_45_code, 3, some .int, false, [1155, 1153, 1154, 73]), cM_take)
def eM_put : am_E := ((⟨"RoomsOfHoursModel", "put", "(II)I"⟩, prog_9_method_46_code, 3, some .int, false, [1162, 1160, 1161, 73]), cM_put)
def eM_undo : am_E := ((⟨"RoomsOfHoursModel", "undo", "()I"⟩, prog_9_method_47_code, 1, some .int, false, [1166, 1164, 1165, 73]), cM_undo)
def eM_meet : am_E := ((⟨"RoomsOfHoursModel", "meet", "(III)I"⟩, prog_9_method_48_code, 10, some .int, false, [1170, 1168, 1169, 73]), cM_meet)
def eM_costOf : am_E := ((⟨"RoomsOfHoursModel", "costOf", "(II)I"⟩, prog_9_method_49_code, 3, some .int, false, [1184, 1183, 56, 73]), cM_costOf)
def eM_layLow : am_E := ((⟨"RoomsOfHoursModel", "layLow", "(II)V"⟩, prog_9_method_50_code, 9, none, false, [1180, 1179, 55, 73]), cM_layLow)
def eM_early : am_E := ((⟨"RoomsOfHoursModel", "early", "(IIII)I"⟩, prog_9_method_51_code, 8, some .int, false, [1175, 1173, 1174, 73]), cM_early)
def eM_ring : am_E := ((⟨"RoomsOfHoursModel", "ring", "(I)I"⟩, prog_9_method_52_code, 7, some .int, false, [1188, 1186, 1187, 73]), cM_ring)
def eM_even : am_E := ((⟨"RoomsOfHoursModel", "even", "()I"⟩, prog_9_method_53_code, 7, some .int, false, [1192, 1190, 1191, 73]), cM_even)
def eM_layStays : am_E := ((⟨"RoomsOfHoursModel", "layStays", "(I)V"⟩, prog_9_method_54_code, 7, none, false, [1200, 1199, 57, 73]), cM_layStays)
def eM_round : am_E := ((⟨"RoomsOfHoursModel", "round", "(III)I"⟩, prog_9_method_55_code, 12, some .int, false, [1196, 1194, 1195, 73]), cM_round)
def eM_hour : am_E := ((⟨"RoomsOfHoursModel", "hour", "(III)I"⟩, prog_9_method_56_code, 6, some .int, false, [1207, 1205, 1206, 73]), cM_hour)
def eM_agreed : am_E := ((⟨"RoomsOfHoursModel", "agreed", "(III)I"⟩, prog_9_method_57_code, 9, some .int, false, [1212, 1210, 1211, 73]), cM_agreed)
def eM_shelf : am_E := ((⟨"RoomsOfHoursModel", "shelf", "(II)I"⟩, prog_9_method_58_code, 7, some .int, false, [1216, 1214, 1215, 73]), cM_shelf)
def eM_seen : am_E := ((⟨"RoomsOfHoursModel", "seen", "(III)I"⟩, prog_9_method_59_code, 4, some .int, false, [1221, 1219, 1220, 73]), cM_seen)
def eM_forget : am_E := ((⟨"RoomsOfHoursModel", "forget", "()I"⟩, prog_9_method_60_code, 2, some .int, false, [1226, 1224, 1225, 73]), cM_forget)
def eM_onBy : am_E := ((⟨"RoomsOfHoursModel", "onBy", "(II)I"⟩, prog_9_method_61_code, 2, some .int, true, [1237, 1236, 0, 73]), cM_onBy)
def eM_pacesOf : am_E := ((⟨"RoomsOfHoursModel", "pacesOf", "(I)I"⟩, prog_9_method_62_code, 6, some .int, false, [1234, 1233, 58, 73]), cM_pacesOf)
def eM_paces : am_E := ((⟨"RoomsOfHoursModel", "paces", "(I)I"⟩, prog_9_method_63_code, 2, some .int, false, [1230, 1228, 1229, 73]), cM_paces)
def eM_look : am_E := ((⟨"RoomsOfHoursModel", "look", "(II)I"⟩, prog_9_method_64_code, 11, some .int, false, [1241, 1239, 1240, 73]), cM_look)
def eM_mended : am_E := ((⟨"RoomsOfHoursModel", "mended", "(I)I"⟩, prog_9_method_65_code, 6, some .int, false, [1245, 1243, 1244, 73]), cM_mended)
def eM_day : am_E := ((⟨"RoomsOfHoursModel", "day", "(III)I"⟩, prog_9_method_66_code, 11, some .int, false, [1249, 1247, 1248, 73]), cM_day)
def eM_copy : am_E := ((⟨"RoomsOfHoursModel", "copy", "(II)V"⟩, prog_9_method_67_code, 4, none, false, [1260, 1259, 59, 73]), cM_copy)
def eM_keep : am_E := ((⟨"RoomsOfHoursModel", "keep", "()I"⟩, prog_9_method_68_code, 1, some .int, false, [1256, 1254, 1255, 73]), cM_keep)
def eM_back : am_E := ((⟨"RoomsOfHoursModel", "back", "()I"⟩, prog_9_method_69_code, 1, some .int, false, [1264, 1262, 1263, 73]), cM_back)
def eM_count : am_E := ((⟨"RoomsOfHoursModel", "count", "(I)I"⟩, prog_9_method_70_code, 2, some .int, false, [1268, 1266, 1267, 73]), cM_count)
def eJ_bitCount : am_E := ((⟨"java/lang/Integer", "bitCount", "(I)I"⟩, prog_10_method_49_code, 1, some .int, true, [644, 643, 0, 74]), cJ_bitCount)
def eJ_floorMod : am_E := ((⟨"java/lang/Math", "floorMod", "(II)I"⟩, prog_11_method_50_code, 3, some .int, true, [511, 510, 0, 69]), cJ_floorMod)
def eJ_max : am_E := ((⟨"java/lang/Math", "max", "(II)I"⟩, prog_11_method_65_code, 2, some .int, true, [517, 516, 0, 69]), cJ_max)
def eJ_min : am_E := ((⟨"java/lang/Math", "min", "(II)I"⟩, prog_11_method_69_code, 2, some .int, true, [342, 341, 0, 69]), cJ_min)
def eJ_fill : am_E := ((⟨"java/util/Arrays", "fill", "([II)V"⟩, prog_16_method_103_code, 4, none, true, [684, 683, 0, 75]), cJ_fill)
def am_E0 : List am_E := [eA_add, eA_copy, eK_begin, eK_perform, eK_canGo, eK_canTake, eK_canPut, eK_pass, eK_cross, eK_enter, eK_pick, eK_drop, eK_hourTicksOf, eK_partsOfTickIn, eK_wornAt, eK_thingsOf]
def am_E1 : List am_E := [eK_visitsOf, eK_firstShared, eH_readText, eH_readItem, eH_numbersOf, eH_figuresAt, eH_numberAt, eH_addItem, eH_addRoom, eH_addDoor, eH_addPerson, eH_addThing, eH_setCrossing, eH_isDoorOf, eH_behind, eH_leadTicks]
def am_E2 : List am_E := [eH_ticksThrough, eH_worthOf, eS_add, eS_pacesOf, eS_isStillSo, eS_mostAlike, eS_shownBy, eT_goAll, eT_step, eT_leave, eT_stayOrNot, eT_noteDone, eW_begin, eW_step, eW_offer, eW_isEven]
def am_E3 : List am_E := [eW_spread, eC_write, eC_wipe, eC_fault, eC_lay, eC_room, eC_clock, eC_door, eC_person, eC_thing, eC_worth, eC_stay, eC_go, eC_take, eC_put, eC_undo]
def am_E4 : List am_E := [eC_meet, eC_early, eC_ring, eC_even, eC_round, eC_hour, eC_agreed, eC_shelf, eC_seen, eC_forget, eC_paces, eC_look, eC_mended, eC_day, eC_keep, eC_back]
def am_E5 : List am_E := [eC_count, eC_moveIn, eC_doAgain, eC_act, eC_nextOwnHour, eC_nextTick, eC_drawOf, eC_commonDivisor, eC_told, eC_isOneOf, eC_isTickToTell, eC_isRoom, eC_isDoor, eC_isPerson, eC_isThing, eM_in]
def am_E6 : List am_E := [eM_has, eM_noHouse, eM_addRoom, eM_addDoor, eM_write, eM_wipe, eM_letterAt, eM_figures, eM_item, eM_readAll, eM_fault, eM_lay, eM_isRoom, eM_isDoor, eM_isPerson, eM_isThing]
def am_E7 : List am_E := [eM_hourOf, eM_oldBy, eM_goBy, eM_isBeside, eM_leadFrom, eM_beyond, eM_comeIn, eM_goDoor, eM_takeUp, eM_putDown, eM_doAct, eM_goAll, eM_common, eM_room, eM_modulo, eM_clock]
def am_E8 : List am_E := [eM_door, eM_thingsOf, eM_person, eM_thing, eM_worthOf, eM_worth, eM_note, eM_bits, eM_stay, eM_go, eM_take, eM_put, eM_undo, eM_meet, eM_costOf, eM_layLow]
def am_E9 : List am_E := [eM_early, eM_ring, eM_even, eM_layStays, eM_round, eM_hour, eM_agreed, eM_shelf, eM_seen, eM_forget, eM_onBy, eM_pacesOf, eM_paces, eM_look, eM_mended, eM_day]
def am_E10 : List am_E := [eM_copy, eM_keep, eM_back, eM_count, eJ_bitCount, eJ_floorMod, eJ_max, eJ_min, eJ_fill]
def am_EL : List am_E := am_E0 ++ (am_E1 ++ (am_E2 ++ (am_E3 ++ (am_E4 ++ (am_E5 ++ (am_E6 ++ (am_E7 ++ (am_E8 ++ (am_E9 ++ (am_E10
))))))))))
def am_lkE : List am_E → Nat → am_E
  | [], _ => eA_add
  | a :: _, 0 => a
  | _ :: l, n + 1 => am_lkE l n
def am_mt (z : Nat) : am_M := (am_lkE am_EL z).1
def am_ts (z : Nat) : List am_W := (am_lkE am_EL z).2
theorem am_lkE_mem : ∀ (l : List am_E) (z : Nat), am_lkE l z ∈ l ∨ am_lkE l z = eA_add := by
  intro l
  induction l with
  | nil => intro z; exact Or.inr rfl
  | cons a l ih =>
    intro z
    match z with
    | 0 => exact Or.inl List.mem_cons_self
    | z + 1 => exact (ih z).elim (fun h => Or.inl (List.mem_cons_of_mem _ h)) Or.inr
def am_okE (q : am_E) : Prop := am_mck q.1 = true ∧ am_chks am_mt q.1.1.cls q.1.2.1 q.2 q.1.2.2.1 q.1.2.2.2.1 q.2 = true ∧ am_pc q.2 = 0
end
section
set_option maxRecDepth 100000 in
theorem kA_add : am_okE eA_add := ⟨by decide +kernel, by decide +kernel, rfl⟩
set_option maxRecDepth 100000 in
theorem kA_copy : am_okE eA_copy := ⟨by decide +kernel, by decide +kernel, rfl⟩
set_option maxRecDepth 100000 in
theorem kK_begin : am_okE eK_begin := ⟨by decide +kernel, by decide +kernel, rfl⟩
set_option maxRecDepth 100000 in
theorem kK_perform : am_okE eK_perform := ⟨by decide +kernel, by decide +kernel, rfl⟩
set_option maxRecDepth 100000 in
theorem kK_canGo : am_okE eK_canGo := ⟨by decide +kernel, by decide +kernel, rfl⟩
set_option maxRecDepth 100000 in
theorem kK_canTake : am_okE eK_canTake := ⟨by decide +kernel, by decide +kernel, rfl⟩
set_option maxRecDepth 100000 in
theorem kK_canPut : am_okE eK_canPut := ⟨by decide +kernel, by decide +kernel, rfl⟩
set_option maxRecDepth 100000 in
theorem kK_pass : am_okE eK_pass := ⟨by decide +kernel, by decide +kernel, rfl⟩
set_option maxRecDepth 100000 in
theorem kK_cross : am_okE eK_cross := ⟨by decide +kernel, by decide +kernel, rfl⟩
set_option maxRecDepth 100000 in
theorem kK_enter : am_okE eK_enter := ⟨by decide +kernel, by decide +kernel, rfl⟩
set_option maxRecDepth 100000 in
theorem kK_pick : am_okE eK_pick := ⟨by decide +kernel, by decide +kernel, rfl⟩
set_option maxRecDepth 100000 in
theorem kK_drop : am_okE eK_drop := ⟨by decide +kernel, by decide +kernel, rfl⟩
set_option maxRecDepth 100000 in
theorem kK_hourTicksOf : am_okE eK_hourTicksOf := ⟨by decide +kernel, by decide +kernel, rfl⟩
set_option maxRecDepth 100000 in
theorem kK_partsOfTickIn : am_okE eK_partsOfTickIn := ⟨by decide +kernel, by decide +kernel, rfl⟩
set_option maxRecDepth 100000 in
theorem kK_wornAt : am_okE eK_wornAt := ⟨by decide +kernel, by decide +kernel, rfl⟩
set_option maxRecDepth 100000 in
theorem kK_thingsOf : am_okE eK_thingsOf := ⟨by decide +kernel, by decide +kernel, rfl⟩
theorem am_kE0 : ∀ q ∈ am_E0, am_okE q := List.forall_mem_cons.mpr ⟨kA_add, List.forall_mem_cons.mpr ⟨kA_copy, List.forall_mem_cons.mpr ⟨kK_begin, List.forall_mem_cons.mpr ⟨kK_perform, List.forall_mem_cons.mpr ⟨kK_canGo, List.forall_mem_cons.mpr ⟨kK_canTake, List.forall_mem_cons.mpr ⟨kK_canPut, List.forall_mem_cons.mpr ⟨kK_pass, List.forall_mem_cons.mpr ⟨kK_cross, List.forall_mem_cons.mpr ⟨kK_enter, List.forall_mem_cons.mpr ⟨kK_pick, List.forall_mem_cons.mpr ⟨kK_drop, List.forall_mem_cons.mpr ⟨kK_hourTicksOf, List.forall_mem_cons.mpr ⟨kK_partsOfTickIn, List.forall_mem_cons.mpr ⟨kK_wornAt, List.forall_mem_cons.mpr ⟨kK_thingsOf, fun _ h => absurd h List.not_mem_nil⟩⟩⟩⟩⟩⟩⟩⟩⟩⟩⟩⟩⟩⟩⟩⟩
set_option maxRecDepth 100000 in
theorem kK_visitsOf : am_okE eK_visitsOf := ⟨by decide +kernel, by decide +kernel, rfl⟩
set_option maxRecDepth 100000 in
theorem kK_firstShared : am_okE eK_firstShared := ⟨by decide +kernel, by decide +kernel, rfl⟩
set_option maxRecDepth 100000 in
theorem kH_readText : am_okE eH_readText := ⟨by decide +kernel, by decide +kernel, rfl⟩
set_option maxRecDepth 100000 in
theorem kH_readItem : am_okE eH_readItem := ⟨by decide +kernel, by decide +kernel, rfl⟩
set_option maxRecDepth 100000 in
theorem kH_numbersOf : am_okE eH_numbersOf := ⟨by decide +kernel, by decide +kernel, rfl⟩
set_option maxRecDepth 100000 in
theorem kH_figuresAt : am_okE eH_figuresAt := ⟨by decide +kernel, by decide +kernel, rfl⟩
set_option maxRecDepth 100000 in
theorem kH_numberAt : am_okE eH_numberAt := ⟨by decide +kernel, by decide +kernel, rfl⟩
set_option maxRecDepth 100000 in
theorem kH_addItem : am_okE eH_addItem := ⟨by decide +kernel, by decide +kernel, rfl⟩
set_option maxRecDepth 100000 in
theorem kH_addRoom : am_okE eH_addRoom := ⟨by decide +kernel, by decide +kernel, rfl⟩
set_option maxRecDepth 100000 in
theorem kH_addDoor : am_okE eH_addDoor := ⟨by decide +kernel, by decide +kernel, rfl⟩
set_option maxRecDepth 100000 in
theorem kH_addPerson : am_okE eH_addPerson := ⟨by decide +kernel, by decide +kernel, rfl⟩
set_option maxRecDepth 100000 in
theorem kH_addThing : am_okE eH_addThing := ⟨by decide +kernel, by decide +kernel, rfl⟩
set_option maxRecDepth 100000 in
theorem kH_setCrossing : am_okE eH_setCrossing := ⟨by decide +kernel, by decide +kernel, rfl⟩
set_option maxRecDepth 100000 in
theorem kH_isDoorOf : am_okE eH_isDoorOf := ⟨by decide +kernel, by decide +kernel, rfl⟩
set_option maxRecDepth 100000 in
theorem kH_behind : am_okE eH_behind := ⟨by decide +kernel, by decide +kernel, rfl⟩
set_option maxRecDepth 100000 in
theorem kH_leadTicks : am_okE eH_leadTicks := ⟨by decide +kernel, by decide +kernel, rfl⟩
theorem am_kE1 : ∀ q ∈ am_E1, am_okE q := List.forall_mem_cons.mpr ⟨kK_visitsOf, List.forall_mem_cons.mpr ⟨kK_firstShared, List.forall_mem_cons.mpr ⟨kH_readText, List.forall_mem_cons.mpr ⟨kH_readItem, List.forall_mem_cons.mpr ⟨kH_numbersOf, List.forall_mem_cons.mpr ⟨kH_figuresAt, List.forall_mem_cons.mpr ⟨kH_numberAt, List.forall_mem_cons.mpr ⟨kH_addItem, List.forall_mem_cons.mpr ⟨kH_addRoom, List.forall_mem_cons.mpr ⟨kH_addDoor, List.forall_mem_cons.mpr ⟨kH_addPerson, List.forall_mem_cons.mpr ⟨kH_addThing, List.forall_mem_cons.mpr ⟨kH_setCrossing, List.forall_mem_cons.mpr ⟨kH_isDoorOf, List.forall_mem_cons.mpr ⟨kH_behind, List.forall_mem_cons.mpr ⟨kH_leadTicks, fun _ h => absurd h List.not_mem_nil⟩⟩⟩⟩⟩⟩⟩⟩⟩⟩⟩⟩⟩⟩⟩⟩
set_option maxRecDepth 100000 in
theorem kH_ticksThrough : am_okE eH_ticksThrough := ⟨by decide +kernel, by decide +kernel, rfl⟩
set_option maxRecDepth 100000 in
theorem kH_worthOf : am_okE eH_worthOf := ⟨by decide +kernel, by decide +kernel, rfl⟩
set_option maxRecDepth 100000 in
theorem kS_add : am_okE eS_add := ⟨by decide +kernel, by decide +kernel, rfl⟩
set_option maxRecDepth 100000 in
theorem kS_pacesOf : am_okE eS_pacesOf := ⟨by decide +kernel, by decide +kernel, rfl⟩
set_option maxRecDepth 100000 in
theorem kS_isStillSo : am_okE eS_isStillSo := ⟨by decide +kernel, by decide +kernel, rfl⟩
set_option maxRecDepth 100000 in
theorem kS_mostAlike : am_okE eS_mostAlike := ⟨by decide +kernel, by decide +kernel, rfl⟩
set_option maxRecDepth 100000 in
theorem kS_shownBy : am_okE eS_shownBy := ⟨by decide +kernel, by decide +kernel, rfl⟩
set_option maxRecDepth 100000 in
theorem kT_goAll : am_okE eT_goAll := ⟨by decide +kernel, by decide +kernel, rfl⟩
set_option maxRecDepth 100000 in
theorem kT_step : am_okE eT_step := ⟨by decide +kernel, by decide +kernel, rfl⟩
set_option maxRecDepth 100000 in
theorem kT_leave : am_okE eT_leave := ⟨by decide +kernel, by decide +kernel, rfl⟩
set_option maxRecDepth 100000 in
theorem kT_stayOrNot : am_okE eT_stayOrNot := ⟨by decide +kernel, by decide +kernel, rfl⟩
set_option maxRecDepth 100000 in
theorem kT_noteDone : am_okE eT_noteDone := ⟨by decide +kernel, by decide +kernel, rfl⟩
set_option maxRecDepth 100000 in
theorem kW_begin : am_okE eW_begin := ⟨by decide +kernel, by decide +kernel, rfl⟩
set_option maxRecDepth 100000 in
theorem kW_step : am_okE eW_step := ⟨by decide +kernel, by decide +kernel, rfl⟩
set_option maxRecDepth 100000 in
theorem kW_offer : am_okE eW_offer := ⟨by decide +kernel, by decide +kernel, rfl⟩
set_option maxRecDepth 100000 in
theorem kW_isEven : am_okE eW_isEven := ⟨by decide +kernel, by decide +kernel, rfl⟩
theorem am_kE2 : ∀ q ∈ am_E2, am_okE q := List.forall_mem_cons.mpr ⟨kH_ticksThrough, List.forall_mem_cons.mpr ⟨kH_worthOf, List.forall_mem_cons.mpr ⟨kS_add, List.forall_mem_cons.mpr ⟨kS_pacesOf, List.forall_mem_cons.mpr ⟨kS_isStillSo, List.forall_mem_cons.mpr ⟨kS_mostAlike, List.forall_mem_cons.mpr ⟨kS_shownBy, List.forall_mem_cons.mpr ⟨kT_goAll, List.forall_mem_cons.mpr ⟨kT_step, List.forall_mem_cons.mpr ⟨kT_leave, List.forall_mem_cons.mpr ⟨kT_stayOrNot, List.forall_mem_cons.mpr ⟨kT_noteDone, List.forall_mem_cons.mpr ⟨kW_begin, List.forall_mem_cons.mpr ⟨kW_step, List.forall_mem_cons.mpr ⟨kW_offer, List.forall_mem_cons.mpr ⟨kW_isEven, fun _ h => absurd h List.not_mem_nil⟩⟩⟩⟩⟩⟩⟩⟩⟩⟩⟩⟩⟩⟩⟩⟩
end
section
set_option maxRecDepth 100000 in
theorem kW_spread : am_okE eW_spread := ⟨by decide +kernel, by decide +kernel, rfl⟩
set_option maxRecDepth 100000 in
theorem kC_write : am_okE eC_write := ⟨by decide +kernel, by decide +kernel, rfl⟩
set_option maxRecDepth 100000 in
theorem kC_wipe : am_okE eC_wipe := ⟨by decide +kernel, by decide +kernel, rfl⟩
set_option maxRecDepth 100000 in
theorem kC_fault : am_okE eC_fault := ⟨by decide +kernel, by decide +kernel, rfl⟩
set_option maxRecDepth 100000 in
theorem kC_lay : am_okE eC_lay := ⟨by decide +kernel, by decide +kernel, rfl⟩
set_option maxRecDepth 100000 in
theorem kC_room : am_okE eC_room := ⟨by decide +kernel, by decide +kernel, rfl⟩
set_option maxRecDepth 100000 in
theorem kC_clock : am_okE eC_clock := ⟨by decide +kernel, by decide +kernel, rfl⟩
set_option maxRecDepth 100000 in
theorem kC_door : am_okE eC_door := ⟨by decide +kernel, by decide +kernel, rfl⟩
set_option maxRecDepth 100000 in
theorem kC_person : am_okE eC_person := ⟨by decide +kernel, by decide +kernel, rfl⟩
set_option maxRecDepth 100000 in
theorem kC_thing : am_okE eC_thing := ⟨by decide +kernel, by decide +kernel, rfl⟩
set_option maxRecDepth 100000 in
theorem kC_worth : am_okE eC_worth := ⟨by decide +kernel, by decide +kernel, rfl⟩
set_option maxRecDepth 100000 in
theorem kC_stay : am_okE eC_stay := ⟨by decide +kernel, by decide +kernel, rfl⟩
set_option maxRecDepth 100000 in
theorem kC_go : am_okE eC_go := ⟨by decide +kernel, by decide +kernel, rfl⟩
set_option maxRecDepth 100000 in
theorem kC_take : am_okE eC_take := ⟨by decide +kernel, by decide +kernel, rfl⟩
set_option maxRecDepth 100000 in
theorem kC_put : am_okE eC_put := ⟨by decide +kernel, by decide +kernel, rfl⟩
set_option maxRecDepth 100000 in
theorem kC_undo : am_okE eC_undo := ⟨by decide +kernel, by decide +kernel, rfl⟩
theorem am_kE3 : ∀ q ∈ am_E3, am_okE q := List.forall_mem_cons.mpr ⟨kW_spread, List.forall_mem_cons.mpr ⟨kC_write, List.forall_mem_cons.mpr ⟨kC_wipe, List.forall_mem_cons.mpr ⟨kC_fault, List.forall_mem_cons.mpr ⟨kC_lay, List.forall_mem_cons.mpr ⟨kC_room, List.forall_mem_cons.mpr ⟨kC_clock, List.forall_mem_cons.mpr ⟨kC_door, List.forall_mem_cons.mpr ⟨kC_person, List.forall_mem_cons.mpr ⟨kC_thing, List.forall_mem_cons.mpr ⟨kC_worth, List.forall_mem_cons.mpr ⟨kC_stay, List.forall_mem_cons.mpr ⟨kC_go, List.forall_mem_cons.mpr ⟨kC_take, List.forall_mem_cons.mpr ⟨kC_put, List.forall_mem_cons.mpr ⟨kC_undo, fun _ h => absurd h List.not_mem_nil⟩⟩⟩⟩⟩⟩⟩⟩⟩⟩⟩⟩⟩⟩⟩⟩
set_option maxRecDepth 100000 in
theorem kC_meet : am_okE eC_meet := ⟨by decide +kernel, by decide +kernel, rfl⟩
set_option maxRecDepth 100000 in
theorem kC_early : am_okE eC_early := ⟨by decide +kernel, by decide +kernel, rfl⟩
set_option maxRecDepth 100000 in
theorem kC_ring : am_okE eC_ring := ⟨by decide +kernel, by decide +kernel, rfl⟩
set_option maxRecDepth 100000 in
theorem kC_even : am_okE eC_even := ⟨by decide +kernel, by decide +kernel, rfl⟩
set_option maxRecDepth 100000 in
theorem kC_round : am_okE eC_round := ⟨by decide +kernel, by decide +kernel, rfl⟩
set_option maxRecDepth 100000 in
theorem kC_hour : am_okE eC_hour := ⟨by decide +kernel, by decide +kernel, rfl⟩
set_option maxRecDepth 100000 in
theorem kC_agreed : am_okE eC_agreed := ⟨by decide +kernel, by decide +kernel, rfl⟩
set_option maxRecDepth 100000 in
theorem kC_shelf : am_okE eC_shelf := ⟨by decide +kernel, by decide +kernel, rfl⟩
set_option maxRecDepth 100000 in
theorem kC_seen : am_okE eC_seen := ⟨by decide +kernel, by decide +kernel, rfl⟩
set_option maxRecDepth 100000 in
theorem kC_forget : am_okE eC_forget := ⟨by decide +kernel, by decide +kernel, rfl⟩
set_option maxRecDepth 100000 in
theorem kC_paces : am_okE eC_paces := ⟨by decide +kernel, by decide +kernel, rfl⟩
set_option maxRecDepth 100000 in
theorem kC_look : am_okE eC_look := ⟨by decide +kernel, by decide +kernel, rfl⟩
set_option maxRecDepth 100000 in
theorem kC_mended : am_okE eC_mended := ⟨by decide +kernel, by decide +kernel, rfl⟩
set_option maxRecDepth 100000 in
theorem kC_day : am_okE eC_day := ⟨by decide +kernel, by decide +kernel, rfl⟩
set_option maxRecDepth 100000 in
theorem kC_keep : am_okE eC_keep := ⟨by decide +kernel, by decide +kernel, rfl⟩
set_option maxRecDepth 100000 in
theorem kC_back : am_okE eC_back := ⟨by decide +kernel, by decide +kernel, rfl⟩
theorem am_kE4 : ∀ q ∈ am_E4, am_okE q := List.forall_mem_cons.mpr ⟨kC_meet, List.forall_mem_cons.mpr ⟨kC_early, List.forall_mem_cons.mpr ⟨kC_ring, List.forall_mem_cons.mpr ⟨kC_even, List.forall_mem_cons.mpr ⟨kC_round, List.forall_mem_cons.mpr ⟨kC_hour, List.forall_mem_cons.mpr ⟨kC_agreed, List.forall_mem_cons.mpr ⟨kC_shelf, List.forall_mem_cons.mpr ⟨kC_seen, List.forall_mem_cons.mpr ⟨kC_forget, List.forall_mem_cons.mpr ⟨kC_paces, List.forall_mem_cons.mpr ⟨kC_look, List.forall_mem_cons.mpr ⟨kC_mended, List.forall_mem_cons.mpr ⟨kC_day, List.forall_mem_cons.mpr ⟨kC_keep, List.forall_mem_cons.mpr ⟨kC_back, fun _ h => absurd h List.not_mem_nil⟩⟩⟩⟩⟩⟩⟩⟩⟩⟩⟩⟩⟩⟩⟩⟩
set_option maxRecDepth 100000 in
theorem kC_count : am_okE eC_count := ⟨by decide +kernel, by decide +kernel, rfl⟩
set_option maxRecDepth 100000 in
theorem kC_moveIn : am_okE eC_moveIn := ⟨by decide +kernel, by decide +kernel, rfl⟩
set_option maxRecDepth 100000 in
theorem kC_doAgain : am_okE eC_doAgain := ⟨by decide +kernel, by decide +kernel, rfl⟩
set_option maxRecDepth 100000 in
theorem kC_act : am_okE eC_act := ⟨by decide +kernel, by decide +kernel, rfl⟩
set_option maxRecDepth 100000 in
theorem kC_nextOwnHour : am_okE eC_nextOwnHour := ⟨by decide +kernel, by decide +kernel, rfl⟩
set_option maxRecDepth 100000 in
theorem kC_nextTick : am_okE eC_nextTick := ⟨by decide +kernel, by decide +kernel, rfl⟩
set_option maxRecDepth 100000 in
theorem kC_drawOf : am_okE eC_drawOf := ⟨by decide +kernel, by decide +kernel, rfl⟩
set_option maxRecDepth 100000 in
theorem kC_commonDivisor : am_okE eC_commonDivisor := ⟨by decide +kernel, by decide +kernel, rfl⟩
set_option maxRecDepth 100000 in
theorem kC_told : am_okE eC_told := ⟨by decide +kernel, by decide +kernel, rfl⟩
set_option maxRecDepth 100000 in
theorem kC_isOneOf : am_okE eC_isOneOf := ⟨by decide +kernel, by decide +kernel, rfl⟩
set_option maxRecDepth 100000 in
theorem kC_isTickToTell : am_okE eC_isTickToTell := ⟨by decide +kernel, by decide +kernel, rfl⟩
set_option maxRecDepth 100000 in
theorem kC_isRoom : am_okE eC_isRoom := ⟨by decide +kernel, by decide +kernel, rfl⟩
set_option maxRecDepth 100000 in
theorem kC_isDoor : am_okE eC_isDoor := ⟨by decide +kernel, by decide +kernel, rfl⟩
set_option maxRecDepth 100000 in
theorem kC_isPerson : am_okE eC_isPerson := ⟨by decide +kernel, by decide +kernel, rfl⟩
set_option maxRecDepth 100000 in
theorem kC_isThing : am_okE eC_isThing := ⟨by decide +kernel, by decide +kernel, rfl⟩
set_option maxRecDepth 100000 in
theorem kM_in : am_okE eM_in := ⟨by decide +kernel, by decide +kernel, rfl⟩
theorem am_kE5 : ∀ q ∈ am_E5, am_okE q := List.forall_mem_cons.mpr ⟨kC_count, List.forall_mem_cons.mpr ⟨kC_moveIn, List.forall_mem_cons.mpr ⟨kC_doAgain, List.forall_mem_cons.mpr ⟨kC_act, List.forall_mem_cons.mpr ⟨kC_nextOwnHour, List.forall_mem_cons.mpr ⟨kC_nextTick, List.forall_mem_cons.mpr ⟨kC_drawOf, List.forall_mem_cons.mpr ⟨kC_commonDivisor, List.forall_mem_cons.mpr ⟨kC_told, List.forall_mem_cons.mpr ⟨kC_isOneOf, List.forall_mem_cons.mpr ⟨kC_isTickToTell, List.forall_mem_cons.mpr ⟨kC_isRoom, List.forall_mem_cons.mpr ⟨kC_isDoor, List.forall_mem_cons.mpr ⟨kC_isPerson, List.forall_mem_cons.mpr ⟨kC_isThing, List.forall_mem_cons.mpr ⟨kM_in, fun _ h => absurd h List.not_mem_nil⟩⟩⟩⟩⟩⟩⟩⟩⟩⟩⟩⟩⟩⟩⟩⟩
end
section
set_option maxRecDepth 100000 in
theorem kM_has : am_okE eM_has := ⟨by decide +kernel, by decide +kernel, rfl⟩
set_option maxRecDepth 100000 in
theorem kM_noHouse : am_okE eM_noHouse := ⟨by decide +kernel, by decide +kernel, rfl⟩
set_option maxRecDepth 100000 in
theorem kM_addRoom : am_okE eM_addRoom := ⟨by decide +kernel, by decide +kernel, rfl⟩
set_option maxRecDepth 100000 in
theorem kM_addDoor : am_okE eM_addDoor := ⟨by decide +kernel, by decide +kernel, rfl⟩
set_option maxRecDepth 100000 in
theorem kM_write : am_okE eM_write := ⟨by decide +kernel, by decide +kernel, rfl⟩
set_option maxRecDepth 100000 in
theorem kM_wipe : am_okE eM_wipe := ⟨by decide +kernel, by decide +kernel, rfl⟩
set_option maxRecDepth 100000 in
theorem kM_letterAt : am_okE eM_letterAt := ⟨by decide +kernel, by decide +kernel, rfl⟩
set_option maxRecDepth 100000 in
theorem kM_figures : am_okE eM_figures := ⟨by decide +kernel, by decide +kernel, rfl⟩
set_option maxRecDepth 100000 in
theorem kM_item : am_okE eM_item := ⟨by decide +kernel, by decide +kernel, rfl⟩
set_option maxRecDepth 100000 in
theorem kM_readAll : am_okE eM_readAll := ⟨by decide +kernel, by decide +kernel, rfl⟩
set_option maxRecDepth 100000 in
theorem kM_fault : am_okE eM_fault := ⟨by decide +kernel, by decide +kernel, rfl⟩
set_option maxRecDepth 100000 in
theorem kM_lay : am_okE eM_lay := ⟨by decide +kernel, by decide +kernel, rfl⟩
set_option maxRecDepth 100000 in
theorem kM_isRoom : am_okE eM_isRoom := ⟨by decide +kernel, by decide +kernel, rfl⟩
set_option maxRecDepth 100000 in
theorem kM_isDoor : am_okE eM_isDoor := ⟨by decide +kernel, by decide +kernel, rfl⟩
set_option maxRecDepth 100000 in
theorem kM_isPerson : am_okE eM_isPerson := ⟨by decide +kernel, by decide +kernel, rfl⟩
set_option maxRecDepth 100000 in
theorem kM_isThing : am_okE eM_isThing := ⟨by decide +kernel, by decide +kernel, rfl⟩
theorem am_kE6 : ∀ q ∈ am_E6, am_okE q := List.forall_mem_cons.mpr ⟨kM_has, List.forall_mem_cons.mpr ⟨kM_noHouse, List.forall_mem_cons.mpr ⟨kM_addRoom, List.forall_mem_cons.mpr ⟨kM_addDoor, List.forall_mem_cons.mpr ⟨kM_write, List.forall_mem_cons.mpr ⟨kM_wipe, List.forall_mem_cons.mpr ⟨kM_letterAt, List.forall_mem_cons.mpr ⟨kM_figures, List.forall_mem_cons.mpr ⟨kM_item, List.forall_mem_cons.mpr ⟨kM_readAll, List.forall_mem_cons.mpr ⟨kM_fault, List.forall_mem_cons.mpr ⟨kM_lay, List.forall_mem_cons.mpr ⟨kM_isRoom, List.forall_mem_cons.mpr ⟨kM_isDoor, List.forall_mem_cons.mpr ⟨kM_isPerson, List.forall_mem_cons.mpr ⟨kM_isThing, fun _ h => absurd h List.not_mem_nil⟩⟩⟩⟩⟩⟩⟩⟩⟩⟩⟩⟩⟩⟩⟩⟩
set_option maxRecDepth 100000 in
theorem kM_hourOf : am_okE eM_hourOf := ⟨by decide +kernel, by decide +kernel, rfl⟩
set_option maxRecDepth 100000 in
theorem kM_oldBy : am_okE eM_oldBy := ⟨by decide +kernel, by decide +kernel, rfl⟩
set_option maxRecDepth 100000 in
theorem kM_goBy : am_okE eM_goBy := ⟨by decide +kernel, by decide +kernel, rfl⟩
set_option maxRecDepth 100000 in
theorem kM_isBeside : am_okE eM_isBeside := ⟨by decide +kernel, by decide +kernel, rfl⟩
set_option maxRecDepth 100000 in
theorem kM_leadFrom : am_okE eM_leadFrom := ⟨by decide +kernel, by decide +kernel, rfl⟩
set_option maxRecDepth 100000 in
theorem kM_beyond : am_okE eM_beyond := ⟨by decide +kernel, by decide +kernel, rfl⟩
set_option maxRecDepth 100000 in
theorem kM_comeIn : am_okE eM_comeIn := ⟨by decide +kernel, by decide +kernel, rfl⟩
set_option maxRecDepth 100000 in
theorem kM_goDoor : am_okE eM_goDoor := ⟨by decide +kernel, by decide +kernel, rfl⟩
set_option maxRecDepth 100000 in
theorem kM_takeUp : am_okE eM_takeUp := ⟨by decide +kernel, by decide +kernel, rfl⟩
set_option maxRecDepth 100000 in
theorem kM_putDown : am_okE eM_putDown := ⟨by decide +kernel, by decide +kernel, rfl⟩
set_option maxRecDepth 100000 in
theorem kM_doAct : am_okE eM_doAct := ⟨by decide +kernel, by decide +kernel, rfl⟩
set_option maxRecDepth 100000 in
theorem kM_goAll : am_okE eM_goAll := ⟨by decide +kernel, by decide +kernel, rfl⟩
set_option maxRecDepth 100000 in
theorem kM_common : am_okE eM_common := ⟨by decide +kernel, by decide +kernel, rfl⟩
set_option maxRecDepth 100000 in
theorem kM_room : am_okE eM_room := ⟨by decide +kernel, by decide +kernel, rfl⟩
set_option maxRecDepth 100000 in
theorem kM_modulo : am_okE eM_modulo := ⟨by decide +kernel, by decide +kernel, rfl⟩
set_option maxRecDepth 100000 in
theorem kM_clock : am_okE eM_clock := ⟨by decide +kernel, by decide +kernel, rfl⟩
theorem am_kE7 : ∀ q ∈ am_E7, am_okE q := List.forall_mem_cons.mpr ⟨kM_hourOf, List.forall_mem_cons.mpr ⟨kM_oldBy, List.forall_mem_cons.mpr ⟨kM_goBy, List.forall_mem_cons.mpr ⟨kM_isBeside, List.forall_mem_cons.mpr ⟨kM_leadFrom, List.forall_mem_cons.mpr ⟨kM_beyond, List.forall_mem_cons.mpr ⟨kM_comeIn, List.forall_mem_cons.mpr ⟨kM_goDoor, List.forall_mem_cons.mpr ⟨kM_takeUp, List.forall_mem_cons.mpr ⟨kM_putDown, List.forall_mem_cons.mpr ⟨kM_doAct, List.forall_mem_cons.mpr ⟨kM_goAll, List.forall_mem_cons.mpr ⟨kM_common, List.forall_mem_cons.mpr ⟨kM_room, List.forall_mem_cons.mpr ⟨kM_modulo, List.forall_mem_cons.mpr ⟨kM_clock, fun _ h => absurd h List.not_mem_nil⟩⟩⟩⟩⟩⟩⟩⟩⟩⟩⟩⟩⟩⟩⟩⟩
set_option maxRecDepth 100000 in
theorem kM_door : am_okE eM_door := ⟨by decide +kernel, by decide +kernel, rfl⟩
set_option maxRecDepth 100000 in
theorem kM_thingsOf : am_okE eM_thingsOf := ⟨by decide +kernel, by decide +kernel, rfl⟩
set_option maxRecDepth 100000 in
theorem kM_person : am_okE eM_person := ⟨by decide +kernel, by decide +kernel, rfl⟩
set_option maxRecDepth 100000 in
theorem kM_thing : am_okE eM_thing := ⟨by decide +kernel, by decide +kernel, rfl⟩
set_option maxRecDepth 100000 in
theorem kM_worthOf : am_okE eM_worthOf := ⟨by decide +kernel, by decide +kernel, rfl⟩
set_option maxRecDepth 100000 in
theorem kM_worth : am_okE eM_worth := ⟨by decide +kernel, by decide +kernel, rfl⟩
set_option maxRecDepth 100000 in
theorem kM_note : am_okE eM_note := ⟨by decide +kernel, by decide +kernel, rfl⟩
set_option maxRecDepth 100000 in
theorem kM_bits : am_okE eM_bits := ⟨by decide +kernel, by decide +kernel, rfl⟩
set_option maxRecDepth 100000 in
theorem kM_stay : am_okE eM_stay := ⟨by decide +kernel, by decide +kernel, rfl⟩
set_option maxRecDepth 100000 in
theorem kM_go : am_okE eM_go := ⟨by decide +kernel, by decide +kernel, rfl⟩
set_option maxRecDepth 100000 in
theorem kM_take : am_okE eM_take := ⟨by decide +kernel, by decide +kernel, rfl⟩
set_option maxRecDepth 100000 in
theorem kM_put : am_okE eM_put := ⟨by decide +kernel, by decide +kernel, rfl⟩
set_option maxRecDepth 100000 in
theorem kM_undo : am_okE eM_undo := ⟨by decide +kernel, by decide +kernel, rfl⟩
set_option maxRecDepth 100000 in
theorem kM_meet : am_okE eM_meet := ⟨by decide +kernel, by decide +kernel, rfl⟩
set_option maxRecDepth 100000 in
theorem kM_costOf : am_okE eM_costOf := ⟨by decide +kernel, by decide +kernel, rfl⟩
set_option maxRecDepth 100000 in
theorem kM_layLow : am_okE eM_layLow := ⟨by decide +kernel, by decide +kernel, rfl⟩
theorem am_kE8 : ∀ q ∈ am_E8, am_okE q := List.forall_mem_cons.mpr ⟨kM_door, List.forall_mem_cons.mpr ⟨kM_thingsOf, List.forall_mem_cons.mpr ⟨kM_person, List.forall_mem_cons.mpr ⟨kM_thing, List.forall_mem_cons.mpr ⟨kM_worthOf, List.forall_mem_cons.mpr ⟨kM_worth, List.forall_mem_cons.mpr ⟨kM_note, List.forall_mem_cons.mpr ⟨kM_bits, List.forall_mem_cons.mpr ⟨kM_stay, List.forall_mem_cons.mpr ⟨kM_go, List.forall_mem_cons.mpr ⟨kM_take, List.forall_mem_cons.mpr ⟨kM_put, List.forall_mem_cons.mpr ⟨kM_undo, List.forall_mem_cons.mpr ⟨kM_meet, List.forall_mem_cons.mpr ⟨kM_costOf, List.forall_mem_cons.mpr ⟨kM_layLow, fun _ h => absurd h List.not_mem_nil⟩⟩⟩⟩⟩⟩⟩⟩⟩⟩⟩⟩⟩⟩⟩⟩
end
section
set_option maxRecDepth 100000 in
theorem kM_early : am_okE eM_early := ⟨by decide +kernel, by decide +kernel, rfl⟩
set_option maxRecDepth 100000 in
theorem kM_ring : am_okE eM_ring := ⟨by decide +kernel, by decide +kernel, rfl⟩
set_option maxRecDepth 100000 in
theorem kM_even : am_okE eM_even := ⟨by decide +kernel, by decide +kernel, rfl⟩
set_option maxRecDepth 100000 in
theorem kM_layStays : am_okE eM_layStays := ⟨by decide +kernel, by decide +kernel, rfl⟩
set_option maxRecDepth 100000 in
theorem kM_round : am_okE eM_round := ⟨by decide +kernel, by decide +kernel, rfl⟩
set_option maxRecDepth 100000 in
theorem kM_hour : am_okE eM_hour := ⟨by decide +kernel, by decide +kernel, rfl⟩
set_option maxRecDepth 100000 in
theorem kM_agreed : am_okE eM_agreed := ⟨by decide +kernel, by decide +kernel, rfl⟩
set_option maxRecDepth 100000 in
theorem kM_shelf : am_okE eM_shelf := ⟨by decide +kernel, by decide +kernel, rfl⟩
set_option maxRecDepth 100000 in
theorem kM_seen : am_okE eM_seen := ⟨by decide +kernel, by decide +kernel, rfl⟩
set_option maxRecDepth 100000 in
theorem kM_forget : am_okE eM_forget := ⟨by decide +kernel, by decide +kernel, rfl⟩
set_option maxRecDepth 100000 in
theorem kM_onBy : am_okE eM_onBy := ⟨by decide +kernel, by decide +kernel, rfl⟩
set_option maxRecDepth 100000 in
theorem kM_pacesOf : am_okE eM_pacesOf := ⟨by decide +kernel, by decide +kernel, rfl⟩
set_option maxRecDepth 100000 in
theorem kM_paces : am_okE eM_paces := ⟨by decide +kernel, by decide +kernel, rfl⟩
set_option maxRecDepth 100000 in
theorem kM_look : am_okE eM_look := ⟨by decide +kernel, by decide +kernel, rfl⟩
set_option maxRecDepth 100000 in
theorem kM_mended : am_okE eM_mended := ⟨by decide +kernel, by decide +kernel, rfl⟩
set_option maxRecDepth 100000 in
theorem kM_day : am_okE eM_day := ⟨by decide +kernel, by decide +kernel, rfl⟩
theorem am_kE9 : ∀ q ∈ am_E9, am_okE q := List.forall_mem_cons.mpr ⟨kM_early, List.forall_mem_cons.mpr ⟨kM_ring, List.forall_mem_cons.mpr ⟨kM_even, List.forall_mem_cons.mpr ⟨kM_layStays, List.forall_mem_cons.mpr ⟨kM_round, List.forall_mem_cons.mpr ⟨kM_hour, List.forall_mem_cons.mpr ⟨kM_agreed, List.forall_mem_cons.mpr ⟨kM_shelf, List.forall_mem_cons.mpr ⟨kM_seen, List.forall_mem_cons.mpr ⟨kM_forget, List.forall_mem_cons.mpr ⟨kM_onBy, List.forall_mem_cons.mpr ⟨kM_pacesOf, List.forall_mem_cons.mpr ⟨kM_paces, List.forall_mem_cons.mpr ⟨kM_look, List.forall_mem_cons.mpr ⟨kM_mended, List.forall_mem_cons.mpr ⟨kM_day, fun _ h => absurd h List.not_mem_nil⟩⟩⟩⟩⟩⟩⟩⟩⟩⟩⟩⟩⟩⟩⟩⟩
set_option maxRecDepth 100000 in
theorem kM_copy : am_okE eM_copy := ⟨by decide +kernel, by decide +kernel, rfl⟩
set_option maxRecDepth 100000 in
theorem kM_keep : am_okE eM_keep := ⟨by decide +kernel, by decide +kernel, rfl⟩
set_option maxRecDepth 100000 in
theorem kM_back : am_okE eM_back := ⟨by decide +kernel, by decide +kernel, rfl⟩
set_option maxRecDepth 100000 in
theorem kM_count : am_okE eM_count := ⟨by decide +kernel, by decide +kernel, rfl⟩
set_option maxRecDepth 100000 in
theorem kJ_bitCount : am_okE eJ_bitCount := ⟨by decide +kernel, by decide +kernel, rfl⟩
set_option maxRecDepth 100000 in
theorem kJ_floorMod : am_okE eJ_floorMod := ⟨by decide +kernel, by decide +kernel, rfl⟩
set_option maxRecDepth 100000 in
theorem kJ_max : am_okE eJ_max := ⟨by decide +kernel, by decide +kernel, rfl⟩
set_option maxRecDepth 100000 in
theorem kJ_min : am_okE eJ_min := ⟨by decide +kernel, by decide +kernel, rfl⟩
set_option maxRecDepth 100000 in
theorem kJ_fill : am_okE eJ_fill := ⟨by decide +kernel, by decide +kernel, rfl⟩
theorem am_kE10 : ∀ q ∈ am_E10, am_okE q := List.forall_mem_cons.mpr ⟨kM_copy, List.forall_mem_cons.mpr ⟨kM_keep, List.forall_mem_cons.mpr ⟨kM_back, List.forall_mem_cons.mpr ⟨kM_count, List.forall_mem_cons.mpr ⟨kJ_bitCount, List.forall_mem_cons.mpr ⟨kJ_floorMod, List.forall_mem_cons.mpr ⟨kJ_max, List.forall_mem_cons.mpr ⟨kJ_min, List.forall_mem_cons.mpr ⟨kJ_fill, fun _ h => absurd h List.not_mem_nil⟩⟩⟩⟩⟩⟩⟩⟩⟩
end
section
theorem am_kEL : ∀ q ∈ am_EL, am_okE q := by
  show ∀ q ∈ am_E0 ++ (am_E1 ++ (am_E2 ++ (am_E3 ++ (am_E4 ++ (am_E5 ++ (am_E6 ++ (am_E7 ++ (am_E8 ++ (am_E9 ++ (am_E10)))))))))), am_okE q
  exact List.forall_mem_append.mpr ⟨am_kE0, List.forall_mem_append.mpr ⟨am_kE1, List.forall_mem_append.mpr ⟨am_kE2, List.forall_mem_append.mpr ⟨am_kE3, List.forall_mem_append.mpr ⟨am_kE4, List.forall_mem_append.mpr ⟨am_kE5, List.forall_mem_append.mpr ⟨am_kE6, List.forall_mem_append.mpr ⟨am_kE7, List.forall_mem_append.mpr ⟨am_kE8, List.forall_mem_append.mpr ⟨am_kE9, am_kE10⟩⟩⟩⟩⟩⟩⟩⟩⟩⟩
theorem am_kE (z : Nat) : am_okE (am_lkE am_EL z) := (am_lkE_mem am_EL z).elim (am_kEL _) (fun h => by rw [h]; exact kA_add)
theorem am_mt_ok : am_MT am_mt := fun z => (am_kE z).1
/-- the class's and the reference's calls, by levels -/
def am_g : Nat → Nat → List am_V → am_H → am_Z := am_G (fun z => (am_ts z, (am_mt z).2.2.1))
theorem am_level (l : Launch) {nC : Nat} (hclo : am_clo nC = true) (hnC : nC < 1000) (b0 : Nat) (D : va_G) (cI cH : ClassId) (d : Nat) : am_GO l am_mt b0 nC D cI cH d (am_g d) :=
  am_lvl l am_mt_ok (fun z => (am_kE z).2.1) (fun z => (am_kE z).2.2) hclo hnC b0 D cI cH d
end
section
/-! EQUATIONS of the class's methods, by program -/
set_option maxRecDepth 20000 in
theorem qA_add_0 (G : Nat → List am_V → am_H → am_Z) (n : Nat) (a0 : Nat) (x1 : Int32) (x2 : Int32) (x3 : Int32) (h : am_H) : am_run 0 (fun _ => 0) cA_add G (n + 1) 0 [some (vr 0 a0), some (vi x1), some (vi x2), some (vi x3)] h =
  if (h a0 3) < 40 then
    (am_b 40 (h a0 3) fun j1 =>
    am_b 40 ((am_up h (a0 + 1) j1 x1) a0 3) fun j2 =>
    am_b 40 ((am_up (am_up h (a0 + 1) j1 x1) (a0 + 2) j2 x2) a0 3) fun j3 =>
    some (am_up (am_up (am_up (am_up h (a0 + 1) j1 x1) (a0 + 2) j2 x2) (a0 + 3) j3 x3) a0 3 (((am_up (am_up (am_up h (a0 + 1) j1 x1) (a0 + 2) j2 x2) (a0 + 3) j3 x3) a0 3) + 1), some 1))
  else some (h, some 0) := rfl
set_option maxRecDepth 20000 in
theorem qA_copy_0 (G : Nat → List am_V → am_H → am_Z) (n : Nat) (a0 : Nat) (a1 : Nat) (h : am_H) : am_run 0 (fun _ => 0) cA_copy G (n + 1) 0 [some (vr 0 a0), some (vr 0 a1)] h =
  if (0 : Int32) < 0 ∨ (0 : Int32) < 0 ∨ ((am_up h a0 3 (h a1 3)) a0 3) < 0 ∨ 40 < (0 : Int32).toNatClampNeg + Int32.toNatClampNeg ((am_up h a0 3 (h a1 3)) a0 3) ∨ 40 < (0 : Int32).toNatClampNeg + Int32.toNatClampNeg ((am_up h a0 3 (h a1 3)) a0 3) then none else
  if (0 : Int32) < 0 ∨ (0 : Int32) < 0 ∨ ((va_up (am_up h a0 3 (h a1 3)) (a0 + 1) (va_cpy ((am_up h a0 3 (h a1 3)) (a1 + 1)) ((am_up h a0 3 (h a1 3)) (a0 + 1)) (0 : Int32).toNatClampNeg (0 : Int32).toNatClampNeg (Int32.toNatClampNeg ((am_up h a0 3 (h a1 3)) a0 3)))) a0 3) < 0 ∨ 40 < (0 : Int32).toNatClampNeg + Int32.toNatClampNeg ((va_up (am_up h a0 3 (h a1 3)) (a0 + 1) (va_cpy ((am_up h a0 3 (h a1 3)) (a1 + 1)) ((am_up h a0 3 (h a1 3)) (a0 + 1)) (0 : Int32).toNatClampNeg (0 : Int32).toNatClampNeg (Int32.toNatClampNeg ((am_up h a0 3 (h a1 3)) a0 3)))) a0 3) ∨ 40 < (0 : Int32).toNatClampNeg + Int32.toNatClampNeg ((va_up (am_up h a0 3 (h a1 3)) (a0 + 1) (va_cpy ((am_up h a0 3 (h a1 3)) (a1 + 1)) ((am_up h a0 3 (h a1 3)) (a0 + 1)) (0 : Int32).toNatClampNeg (0 : Int32).toNatClampNeg (Int32.toNatClampNeg ((am_up h a0 3 (h a1 3)) a0 3)))) a0 3) then none else
  if (0 : Int32) < 0 ∨ (0 : Int32) < 0 ∨ ((va_up (va_up (am_up h a0 3 (h a1 3)) (a0 + 1) (va_cpy ((am_up h a0 3 (h a1 3)) (a1 + 1)) ((am_up h a0 3 (h a1 3)) (a0 + 1)) (0 : Int32).toNatClampNeg (0 : Int32).toNatClampNeg (Int32.toNatClampNeg ((am_up h a0 3 (h a1 3)) a0 3)))) (a0 + 2) (va_cpy ((va_up (am_up h a0 3 (h a1 3)) (a0 + 1) (va_cpy ((am_up h a0 3 (h a1 3)) (a1 + 1)) ((am_up h a0 3 (h a1 3)) (a0 + 1)) (0 : Int32).toNatClampNeg (0 : Int32).toNatClampNeg (Int32.toNatClampNeg ((am_up h a0 3 (h a1 3)) a0 3)))) (a1 + 2)) ((va_up (am_up h a0 3 (h a1 3)) (a0 + 1) (va_cpy ((am_up h a0 3 (h a1 3)) (a1 + 1)) ((am_up h a0 3 (h a1 3)) (a0 + 1)) (0 : Int32).toNatClampNeg (0 : Int32).toNatClampNeg (Int32.toNatClampNeg ((am_up h a0 3 (h a1 3)) a0 3)))) (a0 + 2)) (0 : Int32).toNatClampNeg (0 : Int32).toNatClampNeg (Int32.toNatClampNeg ((va_up (am_up h a0 3 (h a1 3)) (a0 + 1) (va_cpy ((am_up h a0 3 (h a1 3)) (a1 + 1)) ((am_up h a0 3 (h a1 3)) (a0 + 1)) (0 : Int32).toNatClampNeg (0 : Int32).toNatClampNeg (Int32.toNatClampNeg ((am_up h a0 3 (h a1 3)) a0 3)))) a0 3)))) a0 3) < 0 ∨ 40 < (0 : Int32).toNatClampNeg + Int32.toNatClampNeg ((va_up (va_up (am_up h a0 3 (h a1 3)) (a0 + 1) (va_cpy ((am_up h a0 3 (h a1 3)) (a1 + 1)) ((am_up h a0 3 (h a1 3)) (a0 + 1)) (0 : Int32).toNatClampNeg (0 : Int32).toNatClampNeg (Int32.toNatClampNeg ((am_up h a0 3 (h a1 3)) a0 3)))) (a0 + 2) (va_cpy ((va_up (am_up h a0 3 (h a1 3)) (a0 + 1) (va_cpy ((am_up h a0 3 (h a1 3)) (a1 + 1)) ((am_up h a0 3 (h a1 3)) (a0 + 1)) (0 : Int32).toNatClampNeg (0 : Int32).toNatClampNeg (Int32.toNatClampNeg ((am_up h a0 3 (h a1 3)) a0 3)))) (a1 + 2)) ((va_up (am_up h a0 3 (h a1 3)) (a0 + 1) (va_cpy ((am_up h a0 3 (h a1 3)) (a1 + 1)) ((am_up h a0 3 (h a1 3)) (a0 + 1)) (0 : Int32).toNatClampNeg (0 : Int32).toNatClampNeg (Int32.toNatClampNeg ((am_up h a0 3 (h a1 3)) a0 3)))) (a0 + 2)) (0 : Int32).toNatClampNeg (0 : Int32).toNatClampNeg (Int32.toNatClampNeg ((va_up (am_up h a0 3 (h a1 3)) (a0 + 1) (va_cpy ((am_up h a0 3 (h a1 3)) (a1 + 1)) ((am_up h a0 3 (h a1 3)) (a0 + 1)) (0 : Int32).toNatClampNeg (0 : Int32).toNatClampNeg (Int32.toNatClampNeg ((am_up h a0 3 (h a1 3)) a0 3)))) a0 3)))) a0 3) ∨ 40 < (0 : Int32).toNatClampNeg + Int32.toNatClampNeg ((va_up (va_up (am_up h a0 3 (h a1 3)) (a0 + 1) (va_cpy ((am_up h a0 3 (h a1 3)) (a1 + 1)) ((am_up h a0 3 (h a1 3)) (a0 + 1)) (0 : Int32).toNatClampNeg (0 : Int32).toNatClampNeg (Int32.toNatClampNeg ((am_up h a0 3 (h a1 3)) a0 3)))) (a0 + 2) (va_cpy ((va_up (am_up h a0 3 (h a1 3)) (a0 + 1) (va_cpy ((am_up h a0 3 (h a1 3)) (a1 + 1)) ((am_up h a0 3 (h a1 3)) (a0 + 1)) (0 : Int32).toNatClampNeg (0 : Int32).toNatClampNeg (Int32.toNatClampNeg ((am_up h a0 3 (h a1 3)) a0 3)))) (a1 + 2)) ((va_up (am_up h a0 3 (h a1 3)) (a0 + 1) (va_cpy ((am_up h a0 3 (h a1 3)) (a1 + 1)) ((am_up h a0 3 (h a1 3)) (a0 + 1)) (0 : Int32).toNatClampNeg (0 : Int32).toNatClampNeg (Int32.toNatClampNeg ((am_up h a0 3 (h a1 3)) a0 3)))) (a0 + 2)) (0 : Int32).toNatClampNeg (0 : Int32).toNatClampNeg (Int32.toNatClampNeg ((va_up (am_up h a0 3 (h a1 3)) (a0 + 1) (va_cpy ((am_up h a0 3 (h a1 3)) (a1 + 1)) ((am_up h a0 3 (h a1 3)) (a0 + 1)) (0 : Int32).toNatClampNeg (0 : Int32).toNatClampNeg (Int32.toNatClampNeg ((am_up h a0 3 (h a1 3)) a0 3)))) a0 3)))) a0 3) then none else
  some (va_up (va_up (va_up (am_up h a0 3 (h a1 3)) (a0 + 1) (va_cpy ((am_up h a0 3 (h a1 3)) (a1 + 1)) ((am_up h a0 3 (h a1 3)) (a0 + 1)) (0 : Int32).toNatClampNeg (0 : Int32).toNatClampNeg (Int32.toNatClampNeg ((am_up h a0 3 (h a1 3)) a0 3)))) (a0 + 2) (va_cpy ((va_up (am_up h a0 3 (h a1 3)) (a0 + 1) (va_cpy ((am_up h a0 3 (h a1 3)) (a1 + 1)) ((am_up h a0 3 (h a1 3)) (a0 + 1)) (0 : Int32).toNatClampNeg (0 : Int32).toNatClampNeg (Int32.toNatClampNeg ((am_up h a0 3 (h a1 3)) a0 3)))) (a1 + 2)) ((va_up (am_up h a0 3 (h a1 3)) (a0 + 1) (va_cpy ((am_up h a0 3 (h a1 3)) (a1 + 1)) ((am_up h a0 3 (h a1 3)) (a0 + 1)) (0 : Int32).toNatClampNeg (0 : Int32).toNatClampNeg (Int32.toNatClampNeg ((am_up h a0 3 (h a1 3)) a0 3)))) (a0 + 2)) (0 : Int32).toNatClampNeg (0 : Int32).toNatClampNeg (Int32.toNatClampNeg ((va_up (am_up h a0 3 (h a1 3)) (a0 + 1) (va_cpy ((am_up h a0 3 (h a1 3)) (a1 + 1)) ((am_up h a0 3 (h a1 3)) (a0 + 1)) (0 : Int32).toNatClampNeg (0 : Int32).toNatClampNeg (Int32.toNatClampNeg ((am_up h a0 3 (h a1 3)) a0 3)))) a0 3)))) (a0 + 3) (va_cpy ((va_up (va_up (am_up h a0 3 (h a1 3)) (a0 + 1) (va_cpy ((am_up h a0 3 (h a1 3)) (a1 + 1)) ((am_up h a0 3 (h a1 3)) (a0 + 1)) (0 : Int32).toNatClampNeg (0 : Int32).toNatClampNeg (Int32.toNatClampNeg ((am_up h a0 3 (h a1 3)) a0 3)))) (a0 + 2) (va_cpy ((va_up (am_up h a0 3 (h a1 3)) (a0 + 1) (va_cpy ((am_up h a0 3 (h a1 3)) (a1 + 1)) ((am_up h a0 3 (h a1 3)) (a0 + 1)) (0 : Int32).toNatClampNeg (0 : Int32).toNatClampNeg (Int32.toNatClampNeg ((am_up h a0 3 (h a1 3)) a0 3)))) (a1 + 2)) ((va_up (am_up h a0 3 (h a1 3)) (a0 + 1) (va_cpy ((am_up h a0 3 (h a1 3)) (a1 + 1)) ((am_up h a0 3 (h a1 3)) (a0 + 1)) (0 : Int32).toNatClampNeg (0 : Int32).toNatClampNeg (Int32.toNatClampNeg ((am_up h a0 3 (h a1 3)) a0 3)))) (a0 + 2)) (0 : Int32).toNatClampNeg (0 : Int32).toNatClampNeg (Int32.toNatClampNeg ((va_up (am_up h a0 3 (h a1 3)) (a0 + 1) (va_cpy ((am_up h a0 3 (h a1 3)) (a1 + 1)) ((am_up h a0 3 (h a1 3)) (a0 + 1)) (0 : Int32).toNatClampNeg (0 : Int32).toNatClampNeg (Int32.toNatClampNeg ((am_up h a0 3 (h a1 3)) a0 3)))) a0 3)))) (a1 + 3)) ((va_up (va_up (am_up h a0 3 (h a1 3)) (a0 + 1) (va_cpy ((am_up h a0 3 (h a1 3)) (a1 + 1)) ((am_up h a0 3 (h a1 3)) (a0 + 1)) (0 : Int32).toNatClampNeg (0 : Int32).toNatClampNeg (Int32.toNatClampNeg ((am_up h a0 3 (h a1 3)) a0 3)))) (a0 + 2) (va_cpy ((va_up (am_up h a0 3 (h a1 3)) (a0 + 1) (va_cpy ((am_up h a0 3 (h a1 3)) (a1 + 1)) ((am_up h a0 3 (h a1 3)) (a0 + 1)) (0 : Int32).toNatClampNeg (0 : Int32).toNatClampNeg (Int32.toNatClampNeg ((am_up h a0 3 (h a1 3)) a0 3)))) (a1 + 2)) ((va_up (am_up h a0 3 (h a1 3)) (a0 + 1) (va_cpy ((am_up h a0 3 (h a1 3)) (a1 + 1)) ((am_up h a0 3 (h a1 3)) (a0 + 1)) (0 : Int32).toNatClampNeg (0 : Int32).toNatClampNeg (Int32.toNatClampNeg ((am_up h a0 3 (h a1 3)) a0 3)))) (a0 + 2)) (0 : Int32).toNatClampNeg (0 : Int32).toNatClampNeg (Int32.toNatClampNeg ((va_up (am_up h a0 3 (h a1 3)) (a0 + 1) (va_cpy ((am_up h a0 3 (h a1 3)) (a1 + 1)) ((am_up h a0 3 (h a1 3)) (a0 + 1)) (0 : Int32).toNatClampNeg (0 : Int32).toNatClampNeg (Int32.toNatClampNeg ((am_up h a0 3 (h a1 3)) a0 3)))) a0 3)))) (a0 + 3)) (0 : Int32).toNatClampNeg (0 : Int32).toNatClampNeg (Int32.toNatClampNeg ((va_up (va_up (am_up h a0 3 (h a1 3)) (a0 + 1) (va_cpy ((am_up h a0 3 (h a1 3)) (a1 + 1)) ((am_up h a0 3 (h a1 3)) (a0 + 1)) (0 : Int32).toNatClampNeg (0 : Int32).toNatClampNeg (Int32.toNatClampNeg ((am_up h a0 3 (h a1 3)) a0 3)))) (a0 + 2) (va_cpy ((va_up (am_up h a0 3 (h a1 3)) (a0 + 1) (va_cpy ((am_up h a0 3 (h a1 3)) (a1 + 1)) ((am_up h a0 3 (h a1 3)) (a0 + 1)) (0 : Int32).toNatClampNeg (0 : Int32).toNatClampNeg (Int32.toNatClampNeg ((am_up h a0 3 (h a1 3)) a0 3)))) (a1 + 2)) ((va_up (am_up h a0 3 (h a1 3)) (a0 + 1) (va_cpy ((am_up h a0 3 (h a1 3)) (a1 + 1)) ((am_up h a0 3 (h a1 3)) (a0 + 1)) (0 : Int32).toNatClampNeg (0 : Int32).toNatClampNeg (Int32.toNatClampNeg ((am_up h a0 3 (h a1 3)) a0 3)))) (a0 + 2)) (0 : Int32).toNatClampNeg (0 : Int32).toNatClampNeg (Int32.toNatClampNeg ((va_up (am_up h a0 3 (h a1 3)) (a0 + 1) (va_cpy ((am_up h a0 3 (h a1 3)) (a1 + 1)) ((am_up h a0 3 (h a1 3)) (a0 + 1)) (0 : Int32).toNatClampNeg (0 : Int32).toNatClampNeg (Int32.toNatClampNeg ((am_up h a0 3 (h a1 3)) a0 3)))) a0 3)))) a0 3))), none) := rfl
set_option maxRecDepth 20000 in
theorem qK_begin_0 (G : Nat → List am_V → am_H → am_Z) (n : Nat) (a0 : Nat) (a1 : Nat) (x2 : Int32) (h : am_H) : am_run 0 (fun _ => 0) cK_begin G (n + 1) 0 [some (vr 1 a0), some (vr 2 a1), some (vi x2), none] h =
  am_run 0 (fun _ => 0) cK_begin G n 12 [some (vr 1 a0), some (vr 2 a1), some (vi x2), some (vi 0)] (am_up (am_up (am_up h a0 0 (nI a1)) a0 1 x2) a0 14 0) := rfl
set_option maxRecDepth 20000 in
theorem qK_begin_12 (G : Nat → List am_V → am_H → am_Z) (n : Nat) (a0 : Nat) (a1 : Nat) (x2 : Int32) (x3 : Int32) (h : am_H) : am_run 0 (fun _ => 0) cK_begin G (n + 1) 12 [some (vr 1 a0), some (vr 2 a1), some (vi x2), some (vi x3)] h =
  if x3 < (h (Int32.toNatClampNeg (h a0 0)) 16) then
    (am_b 4 x3 fun j1 =>
    am_b 4 x3 fun j2 =>
    am_b 4 x3 fun j3 =>
    am_b 4 x3 fun j4 =>
    am_r0 (G 9 [vr 1 a0, vi x3, vi ((am_up (am_up h (a0 + 2) j1 0) (a0 + 3) j3 ((am_up h (a0 + 2) j1 0) ((Int32.toNatClampNeg ((am_up h (a0 + 2) j1 0) a0 0)) + 10) j2)) ((Int32.toNatClampNeg ((am_up (am_up h (a0 + 2) j1 0) (a0 + 3) j3 ((am_up h (a0 + 2) j1 0) ((Int32.toNatClampNeg ((am_up h (a0 + 2) j1 0) a0 0)) + 10) j2)) a0 0)) + 9) j4)] (am_up (am_up h (a0 + 2) j1 0) (a0 + 3) j3 ((am_up h (a0 + 2) j1 0) ((Int32.toNatClampNeg ((am_up h (a0 + 2) j1 0) a0 0)) + 10) j2))) fun h5 =>
    am_run 0 (fun _ => 0) cK_begin G n 12 [some (vr 1 a0), some (vr 2 a1), some (vi x2), some (vi (x3 + 1))] h5)
  else am_run 0 (fun _ => 0) cK_begin G n 44 [some (vr 1 a0), some (vr 2 a1), some (vi x2), some (vi 0)] h := rfl
set_option maxRecDepth 20000 in
theorem qK_begin_44 (G : Nat → List am_V → am_H → am_Z) (n : Nat) (a0 : Nat) (a1 : Nat) (x2 : Int32) (x3 : Int32) (h : am_H) : am_run 0 (fun _ => 0) cK_begin G (n + 1) 44 [some (vr 1 a0), some (vr 2 a1), some (vi x2), some (vi x3)] h =
  if x3 < (h (Int32.toNatClampNeg (h a0 0)) 17) then
    (am_b 5 x3 fun j1 =>
    am_b 5 x3 fun j2 =>
    am_b 5 x3 fun j3 =>
    am_b 5 x3 fun j4 =>
    am_b 5 x3 fun j5 =>
    am_run 0 (fun _ => 0) cK_begin G n 44 [some (vr 1 a0), some (vr 2 a1), some (vi x2), some (vi (x3 + 1))] (am_up (am_up (am_up (am_up h (a0 + 5) j2 (h ((Int32.toNatClampNeg (h a0 0)) + 11) j1)) (a0 + 6) j3 (-4)) (a0 + 7) j4 0) (a0 + 8) j5 0))
  else some (h, none) := rfl
set_option maxRecDepth 20000 in
theorem qK_perform_0 (G : Nat → List am_V → am_H → am_Z) (n : Nat) (a0 : Nat) (x1 : Int32) (x2 : Int32) (x3 : Int32) (h : am_H) : am_run 0 (fun _ => 0) cK_perform G (n + 1) 0 [some (vr 1 a0), some (vi x1), some (vi x2), some (vi x3)] h =
  if x1 = 0 then
    (am_r0 (G 7 [vr 1 a0, vi x2, vi x3] h) fun h1 =>
    some (h1, none))
  else if x1 = 1 then
    (am_r1 (G 4 [vr 1 a0, vi x2, vi x3] h) fun h2 v3 =>
    if v3 = 0 then
      (if x1 = 2 then
        (am_r1 (G 5 [vr 1 a0, vi x2, vi x3] h2) fun h4 v5 =>
        if v5 = 0 then
          (if x1 = 3 then
            (am_r1 (G 6 [vr 1 a0, vi x2, vi x3] h4) fun h6 v7 =>
            if v7 = 0 then
              (some (h6, none))
            else am_r0 (G 11 [vr 1 a0, vi x2, vi x3] h6) fun h8 =>
            some (h8, none))
          else some (h4, none))
        else am_r0 (G 10 [vr 1 a0, vi x2, vi x3] h4) fun h9 =>
        some (h9, none))
      else if x1 = 3 then
        (am_r1 (G 6 [vr 1 a0, vi x2, vi x3] h2) fun h10 v11 =>
        if v11 = 0 then
          (some (h10, none))
        else am_r0 (G 11 [vr 1 a0, vi x2, vi x3] h10) fun h12 =>
        some (h12, none))
      else some (h2, none))
    else am_r0 (G 8 [vr 1 a0, vi x2, vi x3] h2) fun h13 =>
    some (h13, none))
  else if x1 = 2 then
    (am_r1 (G 5 [vr 1 a0, vi x2, vi x3] h) fun h14 v15 =>
    if v15 = 0 then
      (if x1 = 3 then
        (am_r1 (G 6 [vr 1 a0, vi x2, vi x3] h14) fun h16 v17 =>
        if v17 = 0 then
          (some (h16, none))
        else am_r0 (G 11 [vr 1 a0, vi x2, vi x3] h16) fun h18 =>
        some (h18, none))
      else some (h14, none))
    else am_r0 (G 10 [vr 1 a0, vi x2, vi x3] h14) fun h19 =>
    some (h19, none))
  else if x1 = 3 then
    (am_r1 (G 6 [vr 1 a0, vi x2, vi x3] h) fun h20 v21 =>
    if v21 = 0 then
      (some (h20, none))
    else am_r0 (G 11 [vr 1 a0, vi x2, vi x3] h20) fun h22 =>
    some (h22, none))
  else some (h, none) := rfl
set_option maxRecDepth 20000 in
theorem qK_canGo_0 (G : Nat → List am_V → am_H → am_Z) (n : Nat) (a0 : Nat) (x1 : Int32) (x2 : Int32) (h : am_H) : am_run 0 (fun _ => 0) cK_canGo G (n + 1) 0 [some (vr 1 a0), some (vi x1), some (vi x2)] h =
  am_b 4 x1 fun j1 =>
  am_r1 (G 29 [vr 2 (Int32.toNatClampNeg (h a0 0)), vi x2, vi (h (a0 + 1) j1)] h) fun h2 v3 =>
  if v3 &&& 1 = v3 then some (h2, some v3) else none := rfl
set_option maxRecDepth 20000 in
theorem qK_canTake_0 (G : Nat → List am_V → am_H → am_Z) (n : Nat) (a0 : Nat) (x1 : Int32) (x2 : Int32) (h : am_H) : am_run 0 (fun _ => 0) cK_canTake G (n + 1) 0 [some (vr 1 a0), some (vi x1), some (vi x2)] h =
  am_b 5 x2 fun j1 =>
  am_b 4 x1 fun j2 =>
  if (h (a0 + 5) j1) = (h (a0 + 1) j2) then
    (am_b 5 x2 fun j3 =>
    am_b 4 x1 fun j4 =>
    if (h (a0 + 2) j4) < (h (a0 + 7) j3) then
      (some (h, some 0))
    else some (h, some 1))
  else some (h, some 0) := rfl
set_option maxRecDepth 20000 in
theorem qK_canPut_0 (G : Nat → List am_V → am_H → am_Z) (n : Nat) (a0 : Nat) (x1 : Int32) (x2 : Int32) (h : am_H) : am_run 0 (fun _ => 0) cK_canPut G (n + 1) 0 [some (vr 1 a0), some (vi x1), some (vi x2)] h =
  am_b 5 x2 fun j1 =>
  if (h (a0 + 6) j1) = x1 then
    (some (h, some 1))
  else some (h, some 0) := rfl
set_option maxRecDepth 20000 in
theorem qK_pass_0 (G : Nat → List am_V → am_H → am_Z) (n : Nat) (a0 : Nat) (x1 : Int32) (x2 : Int32) (h : am_H) : am_run 0 (fun _ => 0) cK_pass G (n + 1) 0 [some (vr 1 a0), some (vi x1), some (vi x2), none] h =
  am_b 4 x1 fun j1 =>
  am_b 4 x1 fun j2 =>
  am_r1 (G 12 [vr 1 a0, vi (h (a0 + 1) j2)] h) fun h3 v4 =>
  am_b 4 x1 fun j5 =>
  am_b 4 x1 fun j6 =>
  am_b 4 x1 fun j7 =>
  am_b 4 x1 fun j8 =>
  am_b 4 x1 fun j9 =>
  am_b 44 ((am_up (am_up h3 (a0 + 2) j5 ((h (a0 + 2) j1) + (x2 * v4))) (a0 + 3) j7 (((am_up h3 (a0 + 2) j5 ((h (a0 + 2) j1) + (x2 * v4))) (a0 + 3) j6) + x2)) (a0 + 4) j8) fun j10 =>
  am_run 0 (fun _ => 0) cK_pass G n 37 [some (vr 1 a0), some (vi x1), some (vi x2), some (vi 0)] (am_up (am_up (am_up h3 (a0 + 2) j5 ((h (a0 + 2) j1) + (x2 * v4))) (a0 + 3) j7 (((am_up h3 (a0 + 2) j5 ((h (a0 + 2) j1) + (x2 * v4))) (a0 + 3) j6) + x2)) (a0 + 12) j10 ((am_up (am_up h3 (a0 + 2) j5 ((h (a0 + 2) j1) + (x2 * v4))) (a0 + 3) j7 (((am_up h3 (a0 + 2) j5 ((h (a0 + 2) j1) + (x2 * v4))) (a0 + 3) j6) + x2)) (a0 + 2) j9)) := rfl
set_option maxRecDepth 20000 in
theorem qK_pass_37 (G : Nat → List am_V → am_H → am_Z) (n : Nat) (a0 : Nat) (x1 : Int32) (x2 : Int32) (x3 : Int32) (h : am_H) : am_run 0 (fun _ => 0) cK_pass G (n + 1) 37 [some (vr 1 a0), some (vi x1), some (vi x2), some (vi x3)] h =
  if x3 < (h (Int32.toNatClampNeg (h a0 0)) 17) then
    (am_b 5 x3 fun j1 =>
    if (h (a0 + 6) j1) = x1 then
      (am_b 5 x3 fun j2 =>
      am_b 5 x3 fun j3 =>
      am_run 0 (fun _ => 0) cK_pass G n 37 [some (vr 1 a0), some (vi x1), some (vi x2), some (vi (x3 + 1))] (am_up h (a0 + 8) j3 ((h (a0 + 8) j2) + (x2 * 144))))
    else am_run 0 (fun _ => 0) cK_pass G n 37 [some (vr 1 a0), some (vi x1), some (vi x2), some (vi (x3 + 1))] h)
  else some (h, none) := rfl
set_option maxRecDepth 20000 in
theorem qK_cross_0 (G : Nat → List am_V → am_H → am_Z) (n : Nat) (a0 : Nat) (x1 : Int32) (x2 : Int32) (h : am_H) : am_run 0 (fun _ => 0) cK_cross G (n + 1) 0 [some (vr 1 a0), some (vi x1), some (vi x2)] h =
  am_r0 (G 7 [vr 1 a0, vi x1, vi (h (Int32.toNatClampNeg (h a0 0)) 18)] h) fun h1 =>
  am_b 4 x1 fun j2 =>
  am_b 4 x1 fun j3 =>
  am_r1 (G 31 [vr 2 (Int32.toNatClampNeg (h1 a0 0)), vi x2, vi (h1 (a0 + 1) j3)] h1) fun h4 v5 =>
  am_b 4 x1 fun j6 =>
  am_b 4 x1 fun j7 =>
  am_r1 (G 30 [vr 2 (Int32.toNatClampNeg ((am_up h4 (a0 + 2) j6 ((h1 (a0 + 2) j2) + v5)) a0 0)), vi x2, vi ((am_up h4 (a0 + 2) j6 ((h1 (a0 + 2) j2) + v5)) (a0 + 1) j7)] (am_up h4 (a0 + 2) j6 ((h1 (a0 + 2) j2) + v5))) fun h8 v9 =>
  am_r0 (G 9 [vr 1 a0, vi x1, vi v9] h8) fun h10 =>
  some (h10, none) := rfl
set_option maxRecDepth 20000 in
theorem qK_enter_0 (G : Nat → List am_V → am_H → am_Z) (n : Nat) (a0 : Nat) (x1 : Int32) (x2 : Int32) (h : am_H) : am_run 0 (fun _ => 0) cK_enter G (n + 1) 0 [some (vr 1 a0), some (vi x1), some (vi x2)] h =
  am_b 4 x1 fun j1 =>
  if ((am_up h (a0 + 1) j1 x2) a0 14) < 44 then
    (am_b 44 ((am_up h (a0 + 1) j1 x2) a0 14) fun j2 =>
    am_b 44 ((am_up (am_up h (a0 + 1) j1 x2) (a0 + 9) j2 x1) a0 14) fun j3 =>
    am_b 4 x1 fun j4 =>
    am_b 44 ((am_up (am_up (am_up h (a0 + 1) j1 x2) (a0 + 9) j2 x1) (a0 + 10) j3 x2) a0 14) fun j5 =>
    am_b 4 x1 fun j6 =>
    am_b 44 ((am_up (am_up (am_up (am_up h (a0 + 1) j1 x2) (a0 + 9) j2 x1) (a0 + 10) j3 x2) (a0 + 11) j5 ((am_up (am_up (am_up h (a0 + 1) j1 x2) (a0 + 9) j2 x1) (a0 + 10) j3 x2) (a0 + 2) j4)) a0 14) fun j7 =>
    am_b 4 x1 fun j8 =>
    some (am_up (am_up (am_up (am_up (am_up (am_up (am_up h (a0 + 1) j1 x2) (a0 + 9) j2 x1) (a0 + 10) j3 x2) (a0 + 11) j5 ((am_up (am_up (am_up h (a0 + 1) j1 x2) (a0 + 9) j2 x1) (a0 + 10) j3 x2) (a0 + 2) j4)) (a0 + 12) j7 ((am_up (am_up (am_up (am_up h (a0 + 1) j1 x2) (a0 + 9) j2 x1) (a0 + 10) j3 x2) (a0 + 11) j5 ((am_up (am_up (am_up h (a0 + 1) j1 x2) (a0 + 9) j2 x1) (a0 + 10) j3 x2) (a0 + 2) j4)) (a0 + 2) j6)) (a0 + 4) j8 ((am_up (am_up (am_up (am_up (am_up h (a0 + 1) j1 x2) (a0 + 9) j2 x1) (a0 + 10) j3 x2) (a0 + 11) j5 ((am_up (am_up (am_up h (a0 + 1) j1 x2) (a0 + 9) j2 x1) (a0 + 10) j3 x2) (a0 + 2) j4)) (a0 + 12) j7 ((am_up (am_up (am_up (am_up h (a0 + 1) j1 x2) (a0 + 9) j2 x1) (a0 + 10) j3 x2) (a0 + 11) j5 ((am_up (am_up (am_up h (a0 + 1) j1 x2) (a0 + 9) j2 x1) (a0 + 10) j3 x2) (a0 + 2) j4)) (a0 + 2) j6)) a0 14)) a0 14 (((am_up (am_up (am_up (am_up (am_up (am_up h (a0 + 1) j1 x2) (a0 + 9) j2 x1) (a0 + 10) j3 x2) (a0 + 11) j5 ((am_up (am_up (am_up h (a0 + 1) j1 x2) (a0 + 9) j2 x1) (a0 + 10) j3 x2) (a0 + 2) j4)) (a0 + 12) j7 ((am_up (am_up (am_up (am_up h (a0 + 1) j1 x2) (a0 + 9) j2 x1) (a0 + 10) j3 x2) (a0 + 11) j5 ((am_up (am_up (am_up h (a0 + 1) j1 x2) (a0 + 9) j2 x1) (a0 + 10) j3 x2) (a0 + 2) j4)) (a0 + 2) j6)) (a0 + 4) j8 ((am_up (am_up (am_up (am_up (am_up h (a0 + 1) j1 x2) (a0 + 9) j2 x1) (a0 + 10) j3 x2) (a0 + 11) j5 ((am_up (am_up (am_up h (a0 + 1) j1 x2) (a0 + 9) j2 x1) (a0 + 10) j3 x2) (a0 + 2) j4)) (a0 + 12) j7 ((am_up (am_up (am_up (am_up h (a0 + 1) j1 x2) (a0 + 9) j2 x1) (a0 + 10) j3 x2) (a0 + 11) j5 ((am_up (am_up (am_up h (a0 + 1) j1 x2) (a0 + 9) j2 x1) (a0 + 10) j3 x2) (a0 + 2) j4)) (a0 + 2) j6)) a0 14)) a0 14) + 1), none))
  else some (am_up h (a0 + 1) j1 x2, none) := rfl
set_option maxRecDepth 20000 in
theorem qK_pick_0 (G : Nat → List am_V → am_H → am_Z) (n : Nat) (a0 : Nat) (x1 : Int32) (x2 : Int32) (h : am_H) : am_run 0 (fun _ => 0) cK_pick G (n + 1) 0 [some (vr 1 a0), some (vi x1), some (vi x2)] h =
  am_b 4 x1 fun j1 =>
  am_r1 (G 14 [vr 1 a0, vi x2, vi (h (a0 + 2) j1)] h) fun h2 v3 =>
  am_b 5 x2 fun j4 =>
  am_b 5 x2 fun j5 =>
  am_b 5 x2 fun j6 =>
  some (am_up (am_up (am_up h2 (a0 + 8) j4 v3) (a0 + 5) j5 (-4)) (a0 + 6) j6 x1, none) := rfl
set_option maxRecDepth 20000 in
theorem qK_drop_0 (G : Nat → List am_V → am_H → am_Z) (n : Nat) (a0 : Nat) (x1 : Int32) (x2 : Int32) (h : am_H) : am_run 0 (fun _ => 0) cK_drop G (n + 1) 0 [some (vr 1 a0), some (vi x1), some (vi x2)] h =
  am_b 4 x1 fun j1 =>
  am_b 5 x2 fun j2 =>
  am_b 5 x2 fun j3 =>
  am_b 4 x1 fun j4 =>
  am_b 5 x2 fun j5 =>
  some (am_up (am_up (am_up h (a0 + 5) j2 (h (a0 + 1) j1)) (a0 + 6) j3 (-4)) (a0 + 7) j5 ((am_up (am_up h (a0 + 5) j2 (h (a0 + 1) j1)) (a0 + 6) j3 (-4)) (a0 + 2) j4), none) := rfl
set_option maxRecDepth 20000 in
theorem qK_hourTicksOf_0 (G : Nat → List am_V → am_H → am_Z) (n : Nat) (a0 : Nat) (x1 : Int32) (h : am_H) : am_run 0 (fun _ => 0) cK_hourTicksOf G (n + 1) 0 [some (vr 1 a0), some (vi x1)] h =
  if x1 = (h a0 1) then
    (some (h, some 12))
  else am_b 6 x1 fun j1 =>
  some (h, some (h ((Int32.toNatClampNeg (h a0 0)) + 4) j1)) := rfl
set_option maxRecDepth 20000 in
theorem qK_partsOfTickIn_0 (G : Nat → List am_V → am_H → am_Z) (n : Nat) (a0 : Nat) (x1 : Int32) (h : am_H) : am_run 0 (fun _ => 0) cK_partsOfTickIn G (n + 1) 0 [some (vr 1 a0), some (vi x1)] h =
  if x1 = (h a0 1) then
    (some (h, some 12))
  else am_b 6 x1 fun j1 =>
  some (h, some (h ((Int32.toNatClampNeg (h a0 0)) + 5) j1)) := rfl
set_option maxRecDepth 20000 in
theorem qK_wornAt_0 (G : Nat → List am_V → am_H → am_Z) (n : Nat) (a0 : Nat) (x1 : Int32) (x2 : Int32) (h : am_H) : am_run 0 (fun _ => 0) cK_wornAt G (n + 1) 0 [some (vr 1 a0), some (vi x1), some (vi x2)] h =
  am_b 5 x1 fun j1 =>
  if (h (a0 + 5) j1) = (-4) then
    (am_b 5 x1 fun j2 =>
    some (h, some (h (a0 + 8) j2)))
  else am_b 5 x1 fun j3 =>
  am_b 5 x1 fun j4 =>
  am_b 5 x1 fun j5 =>
  am_r1 (G 13 [vr 1 a0, vi (h (a0 + 5) j5)] h) fun h6 v7 =>
  some (h6, some ((h (a0 + 8) j3) + ((x2 - (h (a0 + 7) j4)) * v7))) := rfl
set_option maxRecDepth 20000 in
theorem qK_thingsOf_0 (G : Nat → List am_V → am_H → am_Z) (n : Nat) (a0 : Nat) (x1 : Int32) (h : am_H) : am_run 0 (fun _ => 0) cK_thingsOf G (n + 1) 0 [some (vr 1 a0), some (vi x1), none, none] h =
  am_run 0 (fun _ => 0) cK_thingsOf G n 5 [some (vr 1 a0), some (vi x1), some (vi 0), some (vi 0)] h := rfl
set_option maxRecDepth 20000 in
theorem qK_thingsOf_5 (G : Nat → List am_V → am_H → am_Z) (n : Nat) (a0 : Nat) (x1 : Int32) (x2 : Int32) (x3 : Int32) (h : am_H) : am_run 0 (fun _ => 0) cK_thingsOf G (n + 1) 5 [some (vr 1 a0), some (vi x1), some (vi x2), some (vi x3)] h =
  if x3 < (h (Int32.toNatClampNeg (h a0 0)) 17) then
    (am_b 5 x3 fun j1 =>
    if (h (a0 + 6) j1) = x1 then
      (am_run 0 (fun _ => 0) cK_thingsOf G n 5 [some (vr 1 a0), some (vi x1), some (vi (x2 ||| ((1 : Int32) <<< (x3 &&& 31)))), some (vi (x3 + 1))] h)
    else am_run 0 (fun _ => 0) cK_thingsOf G n 5 [some (vr 1 a0), some (vi x1), some (vi x2), some (vi (x3 + 1))] h)
  else some (h, some x2) := rfl
set_option maxRecDepth 20000 in
theorem qK_visitsOf_0 (G : Nat → List am_V → am_H → am_Z) (n : Nat) (a0 : Nat) (x1 : Int32) (h : am_H) : am_run 0 (fun _ => 0) cK_visitsOf G (n + 1) 0 [some (vr 1 a0), some (vi x1), none, none] h =
  am_run 0 (fun _ => 0) cK_visitsOf G n 5 [some (vr 1 a0), some (vi x1), some (vi 0), some (vi 0)] h := rfl
set_option maxRecDepth 20000 in
theorem qK_visitsOf_5 (G : Nat → List am_V → am_H → am_Z) (n : Nat) (a0 : Nat) (x1 : Int32) (x2 : Int32) (x3 : Int32) (h : am_H) : am_run 0 (fun _ => 0) cK_visitsOf G (n + 1) 5 [some (vr 1 a0), some (vi x1), some (vi x2), some (vi x3)] h =
  if x3 < (h a0 14) then
    (am_b 44 x3 fun j1 =>
    if (h (a0 + 9) j1) = x1 then
      (am_run 0 (fun _ => 0) cK_visitsOf G n 5 [some (vr 1 a0), some (vi x1), some (vi (x2 + 1)), some (vi (x3 + 1))] h)
    else am_run 0 (fun _ => 0) cK_visitsOf G n 5 [some (vr 1 a0), some (vi x1), some (vi x2), some (vi (x3 + 1))] h)
  else some (h, some x2) := rfl
set_option maxRecDepth 20000 in
theorem qK_firstShared_0 (G : Nat → List am_V → am_H → am_Z) (n : Nat) (a0 : Nat) (x1 : Int32) (x2 : Int32) (h : am_H) : am_run 0 (fun _ => 0) cK_firstShared G (n + 1) 0 [some (vr 1 a0), some (vi x1), some (vi x2), none] h =
  am_b 44 x1 fun j1 =>
  am_b 44 x2 fun j2 =>
  am_r1 (G 166 [vi (h (a0 + 11) j1), vi (h (a0 + 11) j2)] h) fun h3 v4 =>
  am_b 44 x1 fun j5 =>
  am_b 44 x2 fun j6 =>
  if (h3 (a0 + 10) j5) = (h3 (a0 + 10) j6) then
    (am_b 44 x1 fun j7 =>
    am_b 44 x2 fun j8 =>
    am_r1 (G 167 [vi (h3 (a0 + 12) j7), vi (h3 (a0 + 12) j8)] h3) fun h9 v10 =>
    if v10 < v4 then
      (some (h9, some 536870912))
    else some (h9, some v4))
  else some (h3, some 536870912) := rfl
set_option maxRecDepth 20000 in
theorem qH_readText_0 (G : Nat → List am_V → am_H → am_Z) (n : Nat) (a0 : Nat) (x2 : Int32) (h : am_H) : am_run 0 (fun _ => 0) cH_readText G (n + 1) 0 [some (vr 2 a0), some (vr 9 1), some (vi x2), none, none, none] h =
  am_run 0 (fun _ => 0) cH_readText G n 20 [some (vr 2 a0), some (vr 9 1), some (vi x2), some (vi 0), some (vi 0), none] (am_up (am_up (am_up (am_up (am_up h a0 14 0) a0 15 0) a0 16 0) a0 17 0) a0 18 1) := rfl
set_option maxRecDepth 20000 in
theorem qH_readText_20 (G : Nat → List am_V → am_H → am_Z) (n : Nat) (a0 : Nat) (x2 : Int32) (x3 : Int32) (x4 : Int32) (u5 : Option am_V) (h : am_H) : am_run 0 (fun _ => 0) cH_readText G (n + 1) 20 [some (vr 2 a0), some (vr 9 1), some (vi x2), some (vi x3), some (vi x4), u5] h =
  if x4 < x2 then
    (if x3 < x2 then
      (am_r1 (G 19 [vr 2 a0, vr 9 1, vi x2, vi x3] h) fun h1 v2 =>
      if v2 = (-4) then
        (some (h1, some x3))
      else am_run 0 (fun _ => 0) cH_readText G n 20 [some (vr 2 a0), some (vr 9 1), some (vi x2), some (vi v2), some (vi (x4 + 1)), some (vi v2)] h1)
    else some (h, some (-4)))
  else some (h, some (-4)) := rfl
set_option maxRecDepth 20000 in
theorem qH_readItem_0 (G : Nat → List am_V → am_H → am_Z) (n : Nat) (a0 : Nat) (x2 : Int32) (x3 : Int32) (h : am_H) : am_run 0 (fun _ => 0) cH_readItem G (n + 1) 0 [some (vr 2 a0), some (vr 9 1), some (vi x2), some (vi x3), none, none, none, none, none] h =
  am_b 200 x3 fun j1 =>
  am_r1 (G 20 [vi (h 1 j1)] h) fun h2 v3 =>
  am_run 0 (fun _ => 0) cH_readItem G n 14 [some (vr 2 a0), some (vr 9 1), some (vi x2), some (vi x3), some (vi (h 1 j1)), some (vi v3), some (vi (x3 + 1)), some (vi 0), none] h2 := rfl
set_option maxRecDepth 20000 in
theorem qH_readItem_14 (G : Nat → List am_V → am_H → am_Z) (n : Nat) (a0 : Nat) (x2 : Int32) (x3 : Int32) (x4 : Int32) (x5 : Int32) (x6 : Int32) (x7 : Int32) (u8 : Option am_V) (h : am_H) : am_run 0 (fun _ => 0) cH_readItem G (n + 1) 14 [some (vr 2 a0), some (vr 9 1), some (vi x2), some (vi x3), some (vi x4), some (vi x5), some (vi x6), some (vi x7), u8] h =
  if x7 < x5 then
    (am_r1 (G 21 [vr 9 1, vi x2, vi x6] h) fun h1 v2 =>
    if v2 = 0 then
      (some (h1, some (-4)))
    else am_r1 (G 22 [vr 9 1, vi x6, vi v2] h1) fun h3 v4 =>
    am_b 4 x7 fun j5 =>
    if (x6 + v2) < x2 then
      (am_b 200 (x6 + v2) fun j6 =>
      if (x7 + 1) < x5 then
        (if ((am_up h3 (a0 + 14) j5 v4) 1 j6) = 44 then
          (am_run 0 (fun _ => 0) cH_readItem G n 14 [some (vr 2 a0), some (vr 9 1), some (vi x2), some (vi x3), some (vi x4), some (vi x5), some (vi ((x6 + v2) + 1)), some (vi (x7 + 1)), some (vi v2)] (am_up h3 (a0 + 14) j5 v4))
        else some (am_up h3 (a0 + 14) j5 v4, some (-4)))
      else if ((am_up h3 (a0 + 14) j5 v4) 1 j6) = 59 then
        (am_run 0 (fun _ => 0) cH_readItem G n 14 [some (vr 2 a0), some (vr 9 1), some (vi x2), some (vi x3), some (vi x4), some (vi x5), some (vi ((x6 + v2) + 1)), some (vi (x7 + 1)), some (vi v2)] (am_up h3 (a0 + 14) j5 v4))
      else some (am_up h3 (a0 + 14) j5 v4, some (-4)))
    else some (am_up h3 (a0 + 14) j5 v4, some (-4)))
  else am_r1 (G 23 [vr 2 a0, vi x4] h) fun h7 v8 =>
  if v8 = 0 then
    (some (h7, some (-4)))
  else some (h7, some x6) := rfl
set_option maxRecDepth 20000 in
theorem qH_numbersOf_0 (G : Nat → List am_V → am_H → am_Z) (n : Nat) (x0 : Int32) (h : am_H) : am_run 0 (fun _ => 0) cH_numbersOf G (n + 1) 0 [some (vi x0)] h =
  if x0 = nI 100 then
    (some (h, some 4))
  else if x0 = nI 112 then
    (some (h, some 2))
  else if x0 = nI 114 then
    (some (h, some 3))
  else if x0 = nI 116 then
    (some (h, some 3))
  else if x0 = nI 119 then
    (some (h, some 1))
  else some (h, some 0) := rfl
set_option maxRecDepth 20000 in
theorem qH_figuresAt_0 (G : Nat → List am_V → am_H → am_Z) (n : Nat) (x1 : Int32) (x2 : Int32) (h : am_H) : am_run 0 (fun _ => 0) cH_figuresAt G (n + 1) 0 [some (vr 9 1), some (vi x1), some (vi x2), none, none] h =
  am_run 0 (fun _ => 0) cH_figuresAt G n 5 [some (vr 9 1), some (vi x1), some (vi x2), some (vi 0), some (vi x2)] h := rfl
set_option maxRecDepth 20000 in
theorem qH_figuresAt_5 (G : Nat → List am_V → am_H → am_Z) (n : Nat) (x1 : Int32) (x2 : Int32) (x3 : Int32) (x4 : Int32) (h : am_H) : am_run 0 (fun _ => 0) cH_figuresAt G (n + 1) 5 [some (vr 9 1), some (vi x1), some (vi x2), some (vi x3), some (vi x4)] h =
  if x4 < x1 then
    (if x3 < 2 then
      (am_b 200 x4 fun j1 =>
      if (h 1 j1) < 48 then
        (some (h, some x3))
      else am_b 200 x4 fun j2 =>
      if 57 < (h 1 j2) then
        (some (h, some x3))
      else am_run 0 (fun _ => 0) cH_figuresAt G n 5 [some (vr 9 1), some (vi x1), some (vi x2), some (vi (x3 + 1)), some (vi (x4 + 1))] h)
    else some (h, some x3))
  else some (h, some x3) := rfl
set_option maxRecDepth 20000 in
theorem qH_numberAt_0 (G : Nat → List am_V → am_H → am_Z) (n : Nat) (x1 : Int32) (x2 : Int32) (h : am_H) : am_run 0 (fun _ => 0) cH_numberAt G (n + 1) 0 [some (vr 9 1), some (vi x1), some (vi x2), none, none] h =
  am_run 0 (fun _ => 0) cH_numberAt G n 5 [some (vr 9 1), some (vi x1), some (vi x2), some (vi 0), some (vi 0)] h := rfl
set_option maxRecDepth 20000 in
theorem qH_numberAt_5 (G : Nat → List am_V → am_H → am_Z) (n : Nat) (x1 : Int32) (x2 : Int32) (x3 : Int32) (x4 : Int32) (h : am_H) : am_run 0 (fun _ => 0) cH_numberAt G (n + 1) 5 [some (vr 9 1), some (vi x1), some (vi x2), some (vi x3), some (vi x4)] h =
  if x4 < x2 then
    (am_b 200 (x1 + x4) fun j1 =>
    am_run 0 (fun _ => 0) cH_numberAt G n 5 [some (vr 9 1), some (vi x1), some (vi x2), some (vi ((10 * x3) + ((h 1 j1) - 48))), some (vi (x4 + 1))] h)
  else some (h, some x3) := rfl
set_option maxRecDepth 20000 in
theorem qH_addItem_0 (G : Nat → List am_V → am_H → am_Z) (n : Nat) (a0 : Nat) (x1 : Int32) (h : am_H) : am_run 0 (fun _ => 0) cH_addItem G (n + 1) 0 [some (vr 2 a0), some (vi x1)] h =
  if x1 = nI 100 then
    (am_r1 (G 25 [vr 2 a0, vi (h (a0 + 14) 0), vi (h (a0 + 14) 1), vi (h (a0 + 14) 2), vi (h (a0 + 14) 3)] h) fun h1 v2 =>
    if v2 &&& 1 = v2 then some (h1, some v2) else none)
  else if x1 = nI 112 then
    (am_r1 (G 26 [vr 2 a0, vi (h (a0 + 14) 0), vi (h (a0 + 14) 1)] h) fun h3 v4 =>
    if v4 &&& 1 = v4 then some (h3, some v4) else none)
  else if x1 = nI 114 then
    (am_r1 (G 24 [vr 2 a0, vi (h (a0 + 14) 0), vi (h (a0 + 14) 1), vi (h (a0 + 14) 2)] h) fun h5 v6 =>
    if v6 &&& 1 = v6 then some (h5, some v6) else none)
  else if x1 = nI 116 then
    (am_r1 (G 27 [vr 2 a0, vi (h (a0 + 14) 0), vi (h (a0 + 14) 1), vi (h (a0 + 14) 2)] h) fun h7 v8 =>
    if v8 &&& 1 = v8 then some (h7, some v8) else none)
  else if x1 = nI 119 then
    (am_r1 (G 28 [vr 2 a0, vi (h (a0 + 14) 0)] h) fun h9 v10 =>
    if v10 &&& 1 = v10 then some (h9, some v10) else none)
  else some (h, some 0) := rfl
set_option maxRecDepth 20000 in
theorem qH_addRoom_0 (G : Nat → List am_V → am_H → am_Z) (n : Nat) (a0 : Nat) (x1 : Int32) (x2 : Int32) (x3 : Int32) (h : am_H) : am_run 0 (fun _ => 0) cH_addRoom G (n + 1) 0 [some (vr 2 a0), some (vi x1), some (vi x2), some (vi x3)] h =
  if (h a0 14) < 6 then
    (if x1 < 1 then
      (some (h, some 0))
    else if 4 < x1 then
      (some (h, some 0))
    else if x2 < 1 then
      (some (h, some 0))
    else if 4 < x2 then
      (some (h, some 0))
    else if x3 < 24 then
      (am_b 6 (h a0 14) fun j1 =>
      am_b 6 ((am_up h (a0 + 1) j1 x1) a0 14) fun j2 =>
      am_b 6 ((am_up (am_up h (a0 + 1) j1 x1) (a0 + 2) j2 x2) a0 14) fun j3 =>
      if x1 = 0 then none else
      am_b 6 ((am_up (am_up (am_up h (a0 + 1) j1 x1) (a0 + 2) j2 x2) (a0 + 3) j3 x3) a0 14) fun j4 =>
      if x2 = 0 then none else
      am_b 6 ((am_up (am_up (am_up (am_up h (a0 + 1) j1 x1) (a0 + 2) j2 x2) (a0 + 3) j3 x3) (a0 + 4) j4 ((12 * x2) / x1)) a0 14) fun j5 =>
      some (am_up (am_up (am_up (am_up (am_up (am_up h (a0 + 1) j1 x1) (a0 + 2) j2 x2) (a0 + 3) j3 x3) (a0 + 4) j4 ((12 * x2) / x1)) (a0 + 5) j5 ((12 * x1) / x2)) a0 14 (((am_up (am_up (am_up (am_up (am_up h (a0 + 1) j1 x1) (a0 + 2) j2 x2) (a0 + 3) j3 x3) (a0 + 4) j4 ((12 * x2) / x1)) (a0 + 5) j5 ((12 * x1) / x2)) a0 14) + 1), some 1))
    else some (h, some 0))
  else some (h, some 0) := rfl
set_option maxRecDepth 20000 in
theorem qH_addDoor_0 (G : Nat → List am_V → am_H → am_Z) (n : Nat) (a0 : Nat) (x1 : Int32) (x2 : Int32) (x3 : Int32) (x4 : Int32) (h : am_H) : am_run 0 (fun _ => 0) cH_addDoor G (n + 1) 0 [some (vr 2 a0), some (vi x1), some (vi x2), some (vi x3), some (vi x4)] h =
  if (h a0 15) < 8 then
    (if x1 < (h a0 14) then
      (if x2 < (h a0 14) then
        (if x1 = x2 then
          (some (h, some 0))
        else if 1 < x3 then
          (some (h, some 0))
        else if 24 < x4 then
          (some (h, some 0))
        else am_b 8 (h a0 15) fun j1 =>
        am_b 8 ((am_up h (a0 + 6) j1 x1) a0 15) fun j2 =>
        if x3 = 0 then
          (am_b 8 ((am_up (am_up h (a0 + 6) j1 x1) (a0 + 7) j2 x2) a0 15) fun j3 =>
          some (am_up (am_up (am_up (am_up h (a0 + 6) j1 x1) (a0 + 7) j2 x2) (a0 + 8) j3 x4) a0 15 (((am_up (am_up (am_up h (a0 + 6) j1 x1) (a0 + 7) j2 x2) (a0 + 8) j3 x4) a0 15) + 1), some 1))
        else am_b 8 ((am_up (am_up h (a0 + 6) j1 x1) (a0 + 7) j2 x2) a0 15) fun j4 =>
        some (am_up (am_up (am_up (am_up h (a0 + 6) j1 x1) (a0 + 7) j2 x2) (a0 + 8) j4 (-x4)) a0 15 (((am_up (am_up (am_up h (a0 + 6) j1 x1) (a0 + 7) j2 x2) (a0 + 8) j4 (-x4)) a0 15) + 1), some 1))
      else some (h, some 0))
    else some (h, some 0))
  else some (h, some 0) := rfl
set_option maxRecDepth 20000 in
theorem qH_addPerson_0 (G : Nat → List am_V → am_H → am_Z) (n : Nat) (a0 : Nat) (x1 : Int32) (x2 : Int32) (h : am_H) : am_run 0 (fun _ => 0) cH_addPerson G (n + 1) 0 [some (vr 2 a0), some (vi x1), some (vi x2)] h =
  if (h a0 16) < 4 then
    (if x1 < (h a0 14) then
      (am_b 4 (h a0 16) fun j1 =>
      am_b 4 ((am_up h (a0 + 9) j1 x1) a0 16) fun j2 =>
      some (am_up (am_up (am_up h (a0 + 9) j1 x1) (a0 + 10) j2 x2) a0 16 (((am_up (am_up h (a0 + 9) j1 x1) (a0 + 10) j2 x2) a0 16) + 1), some 1))
    else some (h, some 0))
  else some (h, some 0) := rfl
set_option maxRecDepth 20000 in
theorem qH_addThing_0 (G : Nat → List am_V → am_H → am_Z) (n : Nat) (a0 : Nat) (x1 : Int32) (x2 : Int32) (x3 : Int32) (h : am_H) : am_run 0 (fun _ => 0) cH_addThing G (n + 1) 0 [some (vr 2 a0), some (vi x1), some (vi x2), some (vi x3)] h =
  if (h a0 17) < 5 then
    (if x1 < (h a0 14) then
      (if 3 < x2 then
        (some (h, some 0))
      else if x3 < 1 then
        (some (h, some 0))
      else am_b 5 (h a0 17) fun j1 =>
      am_b 5 ((am_up h (a0 + 11) j1 x1) a0 17) fun j2 =>
      am_b 5 ((am_up (am_up h (a0 + 11) j1 x1) (a0 + 12) j2 x2) a0 17) fun j3 =>
      some (am_up (am_up (am_up (am_up h (a0 + 11) j1 x1) (a0 + 12) j2 x2) (a0 + 13) j3 x3) a0 17 (((am_up (am_up (am_up h (a0 + 11) j1 x1) (a0 + 12) j2 x2) (a0 + 13) j3 x3) a0 17) + 1), some 1))
    else some (h, some 0))
  else some (h, some 0) := rfl
set_option maxRecDepth 20000 in
theorem qH_setCrossing_0 (G : Nat → List am_V → am_H → am_Z) (n : Nat) (a0 : Nat) (x1 : Int32) (h : am_H) : am_run 0 (fun _ => 0) cH_setCrossing G (n + 1) 0 [some (vr 2 a0), some (vi x1)] h =
  if 3 < x1 then
    (some (h, some 0))
  else some (am_up h a0 18 x1, some 1) := rfl
set_option maxRecDepth 20000 in
theorem qH_isDoorOf_0 (G : Nat → List am_V → am_H → am_Z) (n : Nat) (a0 : Nat) (x1 : Int32) (x2 : Int32) (h : am_H) : am_run 0 (fun _ => 0) cH_isDoorOf G (n + 1) 0 [some (vr 2 a0), some (vi x1), some (vi x2)] h =
  am_b 8 x1 fun j1 =>
  if (h (a0 + 6) j1) = x2 then
    (some (h, some 1))
  else am_b 8 x1 fun j2 =>
  if (h (a0 + 7) j2) = x2 then
    (some (h, some 1))
  else some (h, some 0) := rfl
set_option maxRecDepth 20000 in
theorem qH_behind_0 (G : Nat → List am_V → am_H → am_Z) (n : Nat) (a0 : Nat) (x1 : Int32) (x2 : Int32) (h : am_H) : am_run 0 (fun _ => 0) cH_behind G (n + 1) 0 [some (vr 2 a0), some (vi x1), some (vi x2)] h =
  am_b 8 x1 fun j1 =>
  if (h (a0 + 6) j1) = x2 then
    (am_b 8 x1 fun j2 =>
    some (h, some (h (a0 + 7) j2)))
  else am_b 8 x1 fun j3 =>
  some (h, some (h (a0 + 6) j3)) := rfl
set_option maxRecDepth 20000 in
theorem qH_leadTicks_0 (G : Nat → List am_V → am_H → am_Z) (n : Nat) (a0 : Nat) (x1 : Int32) (x2 : Int32) (h : am_H) : am_run 0 (fun _ => 0) cH_leadTicks G (n + 1) 0 [some (vr 2 a0), some (vi x1), some (vi x2)] h =
  am_b 8 x1 fun j1 =>
  if (h (a0 + 6) j1) = x2 then
    (am_b 8 x1 fun j2 =>
    some (h, some ((h (a0 + 8) j2) * 12)))
  else am_b 8 x1 fun j3 =>
  some (h, some ((-(h (a0 + 8) j3)) * 12)) := rfl
set_option maxRecDepth 20000 in
theorem qH_ticksThrough_0 (G : Nat → List am_V → am_H → am_Z) (n : Nat) (a0 : Nat) (x1 : Int32) (x2 : Int32) (h : am_H) : am_run 0 (fun _ => 0) cH_ticksThrough G (n + 1) 0 [some (vr 2 a0), some (vi x1), some (vi x2)] h =
  am_b 6 x2 fun j1 =>
  am_r1 (G 31 [vr 2 a0, vi x1, vi x2] h) fun h2 v3 =>
  some (h2, some (((h a0 18) * (h (a0 + 4) j1)) + v3)) := rfl
set_option maxRecDepth 20000 in
theorem qH_worthOf_0 (G : Nat → List am_V → am_H → am_Z) (n : Nat) (a0 : Nat) (x1 : Int32) (x2 : Int32) (h : am_H) : am_run 0 (fun _ => 0) cH_worthOf G (n + 1) 0 [some (vr 2 a0), some (vi x1), some (vi x2), none] h =
  am_b 5 x1 fun j1 =>
  if (h (a0 + 12) j1) = nI 0 then
    (am_b 5 x1 fun j2 =>
    some (h, some (h (a0 + 13) j2)))
  else if (h (a0 + 12) j1) = nI 1 then
    (am_b 5 x1 fun j3 =>
    am_r1 (G 166 [vi ((h (a0 + 13) j3) - (x2 / 144)), vi 0] h) fun h4 v5 =>
    some (h4, some v5))
  else if (h (a0 + 12) j1) = nI 2 then
    (am_b 5 x1 fun j6 =>
    if (x2 / 144) < (h (a0 + 13) j6) then
      (some (h, some 0))
    else some (h, some 1))
  else am_b 5 x1 fun j7 =>
  if (x2 / 144) < (h (a0 + 13) j7) then
    (some (h, some 1))
  else some (h, some 0) := rfl
set_option maxRecDepth 20000 in
theorem qS_add_0 (G : Nat → List am_V → am_H → am_Z) (n : Nat) (x1 : Int32) (x2 : Int32) (x3 : Int32) (h : am_H) : am_run 0 (fun _ => 0) cS_add G (n + 1) 0 [some (vr 3 70), some (vi x1), some (vi x2), some (vi x3)] h =
  if (h 70 3) < 8 then
    (am_b 8 (h 70 3) fun j1 =>
    am_b 8 (h 70 3) fun j2 =>
    am_b 8 (h 70 3) fun j3 =>
    some (am_up (am_up (am_up (am_up h 71 j1 x1) 72 j2 x2) 73 j3 x3) 70 3 ((h 70 3) + 1), some 1))
  else some (h, some 0) := rfl
set_option maxRecDepth 20000 in
theorem qS_pacesOf_0 (G : Nat → List am_V → am_H → am_Z) (n : Nat) (x1 : Int32) (h : am_H) : am_run 0 (fun _ => 0) cS_pacesOf G (n + 1) 0 [some (vr 3 70), some (vi x1), none, none] h =
  am_run 0 (fun _ => 0) cS_pacesOf G n 5 [some (vr 3 70), some (vi x1), some (vi 0), some (vi 0)] h := rfl
set_option maxRecDepth 20000 in
theorem qS_pacesOf_5 (G : Nat → List am_V → am_H → am_Z) (n : Nat) (x1 : Int32) (x2 : Int32) (x3 : Int32) (h : am_H) : am_run 0 (fun _ => 0) cS_pacesOf G (n + 1) 5 [some (vr 3 70), some (vi x1), some (vi x2), some (vi x3)] h =
  if x3 < 16 then
    (am_r1 (G 36 [vr 3 70, vi x1, vi x3] h) fun h1 v2 =>
    if v2 = 0 then
      (am_run 0 (fun _ => 0) cS_pacesOf G n 5 [some (vr 3 70), some (vi x1), some (vi x2), some (vi (x3 + 1))] h1)
    else am_run 0 (fun _ => 0) cS_pacesOf G n 5 [some (vr 3 70), some (vi x1), some (vi (x2 ||| ((1 : Int32) <<< (x3 &&& 31)))), some (vi (x3 + 1))] h1)
  else some (h, some x2) := rfl
set_option maxRecDepth 20000 in
theorem qS_isStillSo_0 (G : Nat → List am_V → am_H → am_Z) (n : Nat) (x1 : Int32) (x2 : Int32) (h : am_H) : am_run 0 (fun _ => 0) cS_isStillSo G (n + 1) 0 [some (vr 3 70), some (vi x1), some (vi x2), none] h =
  am_run 0 (fun _ => 0) cS_isStillSo G n 3 [some (vr 3 70), some (vi x1), some (vi x2), some (vi 0)] h := rfl
set_option maxRecDepth 20000 in
theorem qS_isStillSo_3 (G : Nat → List am_V → am_H → am_Z) (n : Nat) (x1 : Int32) (x2 : Int32) (x3 : Int32) (h : am_H) : am_run 0 (fun _ => 0) cS_isStillSo G (n + 1) 3 [some (vr 3 70), some (vi x1), some (vi x2), some (vi x3)] h =
  if x3 < (h 70 3) then
    (am_b 8 x3 fun j1 =>
    if (h 71 j1) = x1 then
      (am_b 8 x3 fun j2 =>
      am_r1 (G 38 [vi x2, vi (h 72 j2)] h) fun h3 v4 =>
      am_b 8 x3 fun j5 =>
      if v4 = (h3 73 j5) then
        (am_run 0 (fun _ => 0) cS_isStillSo G n 3 [some (vr 3 70), some (vi x1), some (vi x2), some (vi (x3 + 1))] h3)
      else some (h3, some 0))
    else am_run 0 (fun _ => 0) cS_isStillSo G n 3 [some (vr 3 70), some (vi x1), some (vi x2), some (vi (x3 + 1))] h)
  else some (h, some 1) := rfl
set_option maxRecDepth 20000 in
theorem qS_mostAlike_0 (G : Nat → List am_V → am_H → am_Z) (n : Nat) (x1 : Int32) (x2 : Int32) (h : am_H) : am_run 0 (fun _ => 0) cS_mostAlike G (n + 1) 0 [some (vr 3 70), some (vi x1), some (vi x2), none, none, none, none, none] h =
  am_run 0 (fun _ => 0) cS_mostAlike G n 5 [some (vr 3 70), some (vi x1), some (vi x2), some (vi 0), some (vi 0), none, none, none] h := rfl
set_option maxRecDepth 20000 in
theorem qS_mostAlike_5 (G : Nat → List am_V → am_H → am_Z) (n : Nat) (x1 : Int32) (x2 : Int32) (x3 : Int32) (x4 : Int32) (u5 : Option am_V) (u6 : Option am_V) (u7 : Option am_V) (h : am_H) : am_run 0 (fun _ => 0) cS_mostAlike G (n + 1) 5 [some (vr 3 70), some (vi x1), some (vi x2), some (vi x3), some (vi x4), u5, u6, u7] h =
  if x4 < 16 then
    (am_run 0 (fun _ => 0) cS_mostAlike G n 13 [some (vr 3 70), some (vi x1), some (vi x2), some (vi x3), some (vi x4), some (vi 0), some (vi 0), u7] h)
  else some (h, some x3) := rfl
set_option maxRecDepth 20000 in
theorem qS_mostAlike_13 (G : Nat → List am_V → am_H → am_Z) (n : Nat) (x1 : Int32) (x2 : Int32) (x3 : Int32) (x4 : Int32) (x5 : Int32) (x6 : Int32) (u7 : Option am_V) (h : am_H) : am_run 0 (fun _ => 0) cS_mostAlike G (n + 1) 13 [some (vr 3 70), some (vi x1), some (vi x2), some (vi x3), some (vi x4), some (vi x5), some (vi x6), u7] h =
  if x6 < 16 then
    (if (((x1 >>> (x4 &&& 31)) &&& (x1 >>> (x6 &&& 31))) &&& 1) = 1 then
      (am_r1 (G 38 [vi x4, vi x2] h) fun h1 v2 =>
      am_r1 (G 38 [vi x6, vi x2] h1) fun h3 v4 =>
      if v2 = v4 then
        (am_run 0 (fun _ => 0) cS_mostAlike G n 13 [some (vr 3 70), some (vi x1), some (vi x2), some (vi x3), some (vi x4), some (vi (x5 + 1)), some (vi (x6 + 1)), some (vi 1)] h3)
      else am_run 0 (fun _ => 0) cS_mostAlike G n 13 [some (vr 3 70), some (vi x1), some (vi x2), some (vi x3), some (vi x4), some (vi x5), some (vi (x6 + 1)), some (vi 1)] h3)
    else am_run 0 (fun _ => 0) cS_mostAlike G n 13 [some (vr 3 70), some (vi x1), some (vi x2), some (vi x3), some (vi x4), some (vi x5), some (vi (x6 + 1)), some (vi 0)] h)
  else am_r1 (G 166 [vi x3, vi x5] h) fun h5 v6 =>
  am_run 0 (fun _ => 0) cS_mostAlike G n 5 [some (vr 3 70), some (vi x1), some (vi x2), some (vi v6), some (vi (x4 + 1)), some (vi x5), some (vi x6), u7] h5 := rfl
set_option maxRecDepth 20000 in
theorem qS_shownBy_0 (G : Nat → List am_V → am_H → am_Z) (n : Nat) (x0 : Int32) (x1 : Int32) (h : am_H) : am_run 0 (fun _ => 0) cS_shownBy G (n + 1) 0 [some (vi x0), some (vi x1), none, none] h =
  am_r1 (G 166 [vi ((am_rem x0 4) + 1), vi 1] h) fun h1 v2 =>
  if v2 = 0 then none else
  some (h1, some ((x1 * ((x0 / 4) + 1)) / v2)) := rfl
set_option maxRecDepth 20000 in
theorem qT_goAll_0 (G : Nat → List am_V → am_H → am_Z) (n : Nat) (a1 : Nat) (x2 : Int32) (x3 : Int32) (x4 : Int32) (h : am_H) : am_run 0 (fun _ => 0) cT_goAll G (n + 1) 0 [some (vr 4 79), some (vr 2 a1), some (vi x2), some (vi x3), some (vi x4), none] h =
  am_r0 (G 168 [vr 484 (Int32.toNatClampNeg (h 79 0)), vi 536870912] (am_up (am_up h 79 2 536870912) 79 3 (-4))) fun h1 =>
  am_b 384 x3 fun j2 =>
  am_r0 (G 42 [vr 4 79, vr 2 a1, vi x2] (am_up h1 (Int32.toNatClampNeg (h1 79 0)) j2 x4)) fun h3 =>
  am_r0 (G 43 [vr 4 79, vr 2 a1, vi x2, vi 0] h3) fun h4 =>
  am_run 0 (fun _ => 0) cT_goAll G n 27 [some (vr 4 79), some (vr 2 a1), some (vi x2), some (vi x3), some (vi x4), some (vi 1)] h4 := rfl
set_option maxRecDepth 20000 in
theorem qT_goAll_27 (G : Nat → List am_V → am_H → am_Z) (n : Nat) (a1 : Nat) (x2 : Int32) (x3 : Int32) (x4 : Int32) (x5 : Int32) (h : am_H) : am_run 0 (fun _ => 0) cT_goAll G (n + 1) 27 [some (vr 4 79), some (vr 2 a1), some (vi x2), some (vi x3), some (vi x4), some (vi x5)] h =
  if 10 < x5 then
    (some (h, none))
  else am_r0 (G 40 [vr 4 79, vr 2 a1, vi x2] h) fun h1 =>
  am_r0 (G 42 [vr 4 79, vr 2 a1, vi x2] h1) fun h2 =>
  am_r0 (G 43 [vr 4 79, vr 2 a1, vi x2, vi x5] h2) fun h3 =>
  am_run 0 (fun _ => 0) cT_goAll G n 27 [some (vr 4 79), some (vr 2 a1), some (vi x2), some (vi x3), some (vi x4), some (vi (x5 + 1))] h3 := rfl
set_option maxRecDepth 20000 in
theorem qT_step_0 (G : Nat → List am_V → am_H → am_Z) (n : Nat) (a1 : Nat) (x2 : Int32) (h : am_H) : am_run 0 (fun _ => 0) cT_step G (n + 1) 0 [some (vr 4 79), some (vr 2 a1), some (vi x2), none, none] h =
  am_r0 (G 168 [vr 484 (Int32.toNatClampNeg (h 79 1)), vi 536870912] h) fun h1 =>
  am_run 0 (fun _ => 0) cT_step G n 7 [some (vr 4 79), some (vr 2 a1), some (vi x2), some (vi 0), none] h1 := rfl
set_option maxRecDepth 20000 in
theorem qT_step_7 (G : Nat → List am_V → am_H → am_Z) (n : Nat) (a1 : Nat) (x2 : Int32) (x3 : Int32) (u4 : Option am_V) (h : am_H) : am_run 0 (fun _ => 0) cT_step G (n + 1) 7 [some (vr 4 79), some (vr 2 a1), some (vi x2), some (vi x3), u4] h =
  if x3 < x2 then
    (am_run 0 (fun _ => 0) cT_step G n 13 [some (vr 4 79), some (vr 2 a1), some (vi x2), some (vi x3), some (vi 0)] h)
  else some (am_up (am_up h 79 0 (nI (Int32.toNatClampNeg (h 79 1)))) 79 1 (nI (Int32.toNatClampNeg (h 79 0))), none) := rfl
set_option maxRecDepth 20000 in
theorem qT_step_13 (G : Nat → List am_V → am_H → am_Z) (n : Nat) (a1 : Nat) (x2 : Int32) (x3 : Int32) (x4 : Int32) (h : am_H) : am_run 0 (fun _ => 0) cT_step G (n + 1) 13 [some (vr 4 79), some (vr 2 a1), some (vi x2), some (vi x3), some (vi x4)] h =
  if x4 < (h a1 14) then
    (am_b 384 ((x3 * 6) + x4) fun j1 =>
    if (h (Int32.toNatClampNeg (h 79 0)) j1) = 536870912 then
      (am_run 0 (fun _ => 0) cT_step G n 13 [some (vr 4 79), some (vr 2 a1), some (vi x2), some (vi x3), some (vi (x4 + 1))] h)
    else am_r0 (G 41 [vr 4 79, vr 2 a1, vi x3, vi x4] h) fun h2 =>
    am_run 0 (fun _ => 0) cT_step G n 13 [some (vr 4 79), some (vr 2 a1), some (vi x2), some (vi x3), some (vi (x4 + 1))] h2)
  else am_run 0 (fun _ => 0) cT_step G n 7 [some (vr 4 79), some (vr 2 a1), some (vi x2), some (vi (x3 + 1)), some (vi x4)] h := rfl
set_option maxRecDepth 20000 in
theorem qT_leave_0 (G : Nat → List am_V → am_H → am_Z) (n : Nat) (a1 : Nat) (x2 : Int32) (x3 : Int32) (h : am_H) : am_run 0 (fun _ => 0) cT_leave G (n + 1) 0 [some (vr 4 79), some (vr 2 a1), some (vi x2), some (vi x3), none, none, none] h =
  am_b 384 ((x2 * 6) + x3) fun j1 =>
  am_run 0 (fun _ => 0) cT_leave G n 12 [some (vr 4 79), some (vr 2 a1), some (vi x2), some (vi x3), some (vi (h (Int32.toNatClampNeg (h 79 0)) j1)), some (vi 0), none] h := rfl
set_option maxRecDepth 20000 in
theorem qT_leave_12 (G : Nat → List am_V → am_H → am_Z) (n : Nat) (a1 : Nat) (x2 : Int32) (x3 : Int32) (x4 : Int32) (x5 : Int32) (u6 : Option am_V) (h : am_H) : am_run 0 (fun _ => 0) cT_leave G (n + 1) 12 [some (vr 4 79), some (vr 2 a1), some (vi x2), some (vi x3), some (vi x4), some (vi x5), u6] h =
  if x5 < (h a1 15) then
    (am_r1 (G 29 [vr 2 a1, vi x5, vi x3] h) fun h1 v2 =>
    if v2 = 0 then
      (am_run 0 (fun _ => 0) cT_leave G n 12 [some (vr 4 79), some (vr 2 a1), some (vi x2), some (vi x3), some (vi x4), some (vi (x5 + 1)), u6] h1)
    else am_r1 (G 30 [vr 2 a1, vi x5, vi x3] h1) fun h3 v4 =>
    am_b 384 ((x2 * 6) + v4) fun j5 =>
    am_r1 (G 32 [vr 2 a1, vi x5, vi x3] h3) fun h6 v7 =>
    am_r1 (G 167 [vi (h3 (Int32.toNatClampNeg (h3 79 1)) j5), vi (x4 + v7)] h6) fun h8 v9 =>
    am_b 384 ((x2 * 6) + v4) fun j10 =>
    am_run 0 (fun _ => 0) cT_leave G n 12 [some (vr 4 79), some (vr 2 a1), some (vi x2), some (vi x3), some (vi x4), some (vi (x5 + 1)), some (vi ((x2 * 6) + v4))] (am_up h8 (Int32.toNatClampNeg (h3 79 1)) j10 v9))
  else some (h, none) := rfl
set_option maxRecDepth 20000 in
theorem qT_stayOrNot_0 (G : Nat → List am_V → am_H → am_Z) (n : Nat) (a1 : Nat) (x2 : Int32) (h : am_H) : am_run 0 (fun _ => 0) cT_stayOrNot G (n + 1) 0 [some (vr 4 79), some (vr 2 a1), some (vi x2), none, none, none, none] h =
  am_run 0 (fun _ => 0) cT_stayOrNot G n 3 [some (vr 4 79), some (vr 2 a1), some (vi x2), some (vi 0), none, none, none] h := rfl
set_option maxRecDepth 20000 in
theorem qT_stayOrNot_3 (G : Nat → List am_V → am_H → am_Z) (n : Nat) (a1 : Nat) (x2 : Int32) (x3 : Int32) (u4 : Option am_V) (u5 : Option am_V) (u6 : Option am_V) (h : am_H) : am_run 0 (fun _ => 0) cT_stayOrNot G (n + 1) 3 [some (vr 4 79), some (vr 2 a1), some (vi x2), some (vi x3), u4, u5, u6] h =
  if x3 < x2 then
    (am_run 0 (fun _ => 0) cT_stayOrNot G n 9 [some (vr 4 79), some (vr 2 a1), some (vi x2), some (vi x3), some (vi 0), u5, u6] h)
  else some (h, none) := rfl
set_option maxRecDepth 20000 in
theorem qT_stayOrNot_9 (G : Nat → List am_V → am_H → am_Z) (n : Nat) (a1 : Nat) (x2 : Int32) (x3 : Int32) (x4 : Int32) (u5 : Option am_V) (u6 : Option am_V) (h : am_H) : am_run 0 (fun _ => 0) cT_stayOrNot G (n + 1) 9 [some (vr 4 79), some (vr 2 a1), some (vi x2), some (vi x3), some (vi x4), u5, u6] h =
  if x4 < (h a1 14) then
    (am_b 384 ((x3 * 6) + x4) fun j1 =>
    if (h (Int32.toNatClampNeg (h 79 0)) j1) = 536870912 then
      (am_run 0 (fun _ => 0) cT_stayOrNot G n 9 [some (vr 4 79), some (vr 2 a1), some (vi x2), some (vi x3), some (vi (x4 + 1)), some (vi (h (Int32.toNatClampNeg (h 79 0)) j1)), u6] h)
    else if (((x2 &&& (x3 ^^^ (-1))) >>> (x4 &&& 31)) &&& 1) = 1 then
      (am_b 384 (((x3 ||| ((1 : Int32) <<< (x4 &&& 31))) * 6) + x4) fun j2 =>
      am_b 6 x4 fun j3 =>
      am_r1 (G 167 [vi (h (Int32.toNatClampNeg (h 79 0)) j2), vi ((h (Int32.toNatClampNeg (h 79 0)) j1) + (h (a1 + 4) j3))] h) fun h4 v5 =>
      am_b 384 (((x3 ||| ((1 : Int32) <<< (x4 &&& 31))) * 6) + x4) fun j6 =>
      am_run 0 (fun _ => 0) cT_stayOrNot G n 9 [some (vr 4 79), some (vr 2 a1), some (vi x2), some (vi x3), some (vi (x4 + 1)), some (vi (h (Int32.toNatClampNeg (h 79 0)) j1)), some (vi (((x3 ||| ((1 : Int32) <<< (x4 &&& 31))) * 6) + x4))] (am_up h4 (Int32.toNatClampNeg (h 79 0)) j6 v5))
    else am_run 0 (fun _ => 0) cT_stayOrNot G n 9 [some (vr 4 79), some (vr 2 a1), some (vi x2), some (vi x3), some (vi (x4 + 1)), some (vi (h (Int32.toNatClampNeg (h 79 0)) j1)), u6] h)
  else am_run 0 (fun _ => 0) cT_stayOrNot G n 3 [some (vr 4 79), some (vr 2 a1), some (vi x2), some (vi (x3 + 1)), some (vi x4), u5, u6] h := rfl
set_option maxRecDepth 20000 in
theorem qT_noteDone_0 (G : Nat → List am_V → am_H → am_Z) (n : Nat) (a1 : Nat) (x2 : Int32) (x3 : Int32) (h : am_H) : am_run 0 (fun _ => 0) cT_noteDone G (n + 1) 0 [some (vr 4 79), some (vr 2 a1), some (vi x2), some (vi x3), none, none] h =
  am_run 0 (fun _ => 0) cT_noteDone G n 3 [some (vr 4 79), some (vr 2 a1), some (vi x2), some (vi x3), some (vi 0), none] h := rfl
set_option maxRecDepth 20000 in
theorem qT_noteDone_3 (G : Nat → List am_V → am_H → am_Z) (n : Nat) (a1 : Nat) (x2 : Int32) (x3 : Int32) (x4 : Int32) (u5 : Option am_V) (h : am_H) : am_run 0 (fun _ => 0) cT_noteDone G (n + 1) 3 [some (vr 4 79), some (vr 2 a1), some (vi x2), some (vi x3), some (vi x4), u5] h =
  if x4 < (h a1 14) then
    (am_b 384 ((x2 * 6) + x4) fun j1 =>
    if (h (Int32.toNatClampNeg (h 79 0)) j1) = 536870912 then
      (am_r1 (G 167 [vi (h 79 2), vi (h (Int32.toNatClampNeg (h 79 0)) j1)] h) fun h2 v3 =>
      am_run 0 (fun _ => 0) cT_noteDone G n 3 [some (vr 4 79), some (vr 2 a1), some (vi x2), some (vi x3), some (vi (x4 + 1)), some (vi (h (Int32.toNatClampNeg (h 79 0)) j1))] (am_up h2 79 2 v3))
    else if (h 79 3) = (-4) then
      (am_r1 (G 167 [vi (h 79 2), vi (h (Int32.toNatClampNeg (h 79 0)) j1)] (am_up h 79 3 x3)) fun h4 v5 =>
      am_run 0 (fun _ => 0) cT_noteDone G n 3 [some (vr 4 79), some (vr 2 a1), some (vi x2), some (vi x3), some (vi (x4 + 1)), some (vi (h (Int32.toNatClampNeg (h 79 0)) j1))] (am_up h4 79 2 v5))
    else am_r1 (G 167 [vi (h 79 2), vi (h (Int32.toNatClampNeg (h 79 0)) j1)] h) fun h6 v7 =>
    am_run 0 (fun _ => 0) cT_noteDone G n 3 [some (vr 4 79), some (vr 2 a1), some (vi x2), some (vi x3), some (vi (x4 + 1)), some (vi (h (Int32.toNatClampNeg (h 79 0)) j1))] (am_up h6 79 2 v7))
  else some (h, none) := rfl
set_option maxRecDepth 20000 in
theorem qW_begin_0 (G : Nat → List am_V → am_H → am_Z) (n : Nat) (x1 : Int32) (x2 : Int32) (h : am_H) : am_run 0 (fun _ => 0) cW_begin G (n + 1) 0 [some (vr 5 74), some (vi x1), some (vi x2)] h =
  am_r0 (G 168 [vr 106 75, vi 536870912] h) fun h1 =>
  am_r0 (G 168 [vr 106 77, vi (-4)] h1) fun h2 =>
  am_b 6 x1 fun j3 =>
  some (am_up h2 75 j3 x2, none) := rfl
set_option maxRecDepth 20000 in
theorem qW_step_0 (G : Nat → List am_V → am_H → am_Z) (n : Nat) (a1 : Nat) (h : am_H) : am_run 0 (fun _ => 0) cW_step G (n + 1) 0 [some (vr 5 74), some (vr 2 a1), none] h =
  am_r0 (G 168 [vr 106 76, vi 536870912] h) fun h1 =>
  am_r0 (G 168 [vr 106 78, vi (-4)] h1) fun h2 =>
  am_run 0 (fun _ => 0) cW_step G n 11 [some (vr 5 74), some (vr 2 a1), some (vi 0)] h2 := rfl
set_option maxRecDepth 20000 in
theorem qW_step_11 (G : Nat → List am_V → am_H → am_Z) (n : Nat) (a1 : Nat) (x2 : Int32) (h : am_H) : am_run 0 (fun _ => 0) cW_step G (n + 1) 11 [some (vr 5 74), some (vr 2 a1), some (vi x2)] h =
  if x2 < (h a1 15) then
    (am_b 8 x2 fun j1 =>
    am_r0 (G 46 [vr 5 74, vr 2 a1, vi x2, vi (h (a1 + 6) j1)] h) fun h2 =>
    am_b 8 x2 fun j3 =>
    am_r0 (G 46 [vr 5 74, vr 2 a1, vi x2, vi (h2 (a1 + 7) j3)] h2) fun h4 =>
    am_run 0 (fun _ => 0) cW_step G n 11 [some (vr 5 74), some (vr 2 a1), some (vi (x2 + 1))] h4)
  else some (va_up (va_up h 75 (va_cpy (h 76) (h 75) 0 0 6)) 77 (va_cpy ((va_up h 75 (va_cpy (h 76) (h 75) 0 0 6)) 78) ((va_up h 75 (va_cpy (h 76) (h 75) 0 0 6)) 77) 0 0 6), none) := rfl
set_option maxRecDepth 20000 in
theorem qW_offer_0 (G : Nat → List am_V → am_H → am_Z) (n : Nat) (a1 : Nat) (x2 : Int32) (x3 : Int32) (h : am_H) : am_run 0 (fun _ => 0) cW_offer G (n + 1) 0 [some (vr 5 74), some (vr 2 a1), some (vi x2), some (vi x3), none, none, none] h =
  am_b 6 x3 fun j1 =>
  if (h 75 j1) = 536870912 then
    (some (h, none))
  else am_r1 (G 30 [vr 2 a1, vi x2, vi x3] h) fun h2 v3 =>
  am_b 6 x3 fun j4 =>
  am_r1 (G 32 [vr 2 a1, vi x2, vi x3] h2) fun h5 v6 =>
  am_b 6 x3 fun j7 =>
  if (h5 77 j7) = (-4) then
    (am_b 6 v3 fun j8 =>
    if ((h2 75 j4) + v6) < (h5 76 j8) then
      (am_b 6 v3 fun j9 =>
      am_b 6 v3 fun j10 =>
      some (am_up (am_up h5 76 j9 ((h2 75 j4) + v6)) 78 j10 x2, none))
    else am_b 6 v3 fun j11 =>
    if ((h2 75 j4) + v6) = (h5 76 j11) then
      (am_b 6 v3 fun j12 =>
      if x2 < (h5 78 j12) then
        (am_b 6 v3 fun j13 =>
        am_b 6 v3 fun j14 =>
        some (am_up (am_up h5 76 j13 ((h2 75 j4) + v6)) 78 j14 x2, none))
      else some (h5, none))
    else some (h5, none))
  else am_b 6 x3 fun j15 =>
  am_b 6 v3 fun j16 =>
  if ((h2 75 j4) + v6) < (h5 76 j16) then
    (am_b 6 v3 fun j17 =>
    am_b 6 v3 fun j18 =>
    some (am_up (am_up h5 76 j17 ((h2 75 j4) + v6)) 78 j18 (h5 77 j15), none))
  else am_b 6 v3 fun j19 =>
  if ((h2 75 j4) + v6) = (h5 76 j19) then
    (am_b 6 v3 fun j20 =>
    if (h5 77 j15) < (h5 78 j20) then
      (am_b 6 v3 fun j21 =>
      am_b 6 v3 fun j22 =>
      some (am_up (am_up h5 76 j21 ((h2 75 j4) + v6)) 78 j22 (h5 77 j15), none))
    else some (h5, none))
  else some (h5, none) := rfl
set_option maxRecDepth 20000 in
theorem qW_isEven_0 (G : Nat → List am_V → am_H → am_Z) (n : Nat) (a1 : Nat) (h : am_H) : am_run 0 (fun _ => 0) cW_isEven G (n + 1) 0 [some (vr 5 74), some (vr 2 a1), none] h =
  am_r0 (G 168 [vr 106 75, vi 536870912] h) fun h1 =>
  am_run 0 (fun _ => 0) cW_isEven G n 7 [some (vr 5 74), some (vr 2 a1), some (vi 0)] h1 := rfl
set_option maxRecDepth 20000 in
theorem qW_isEven_7 (G : Nat → List am_V → am_H → am_Z) (n : Nat) (a1 : Nat) (x2 : Int32) (h : am_H) : am_run 0 (fun _ => 0) cW_isEven G (n + 1) 7 [some (vr 5 74), some (vr 2 a1), some (vi x2)] h =
  if x2 < (h a1 14) then
    (am_b 6 x2 fun j1 =>
    if (h 75 j1) = 536870912 then
      (am_b 6 x2 fun j2 =>
      am_r0 (G 48 [vr 5 74, vr 2 a1] (am_up h 75 j2 0)) fun h3 =>
      am_run 0 (fun _ => 0) cW_isEven G n 7 [some (vr 5 74), some (vr 2 a1), some (vi (x2 + 1))] h3)
    else am_run 0 (fun _ => 0) cW_isEven G n 7 [some (vr 5 74), some (vr 2 a1), some (vi (x2 + 1))] h)
  else am_run 0 (fun _ => 0) cW_isEven G n 30 [some (vr 5 74), some (vr 2 a1), some (vi 0)] h := rfl
set_option maxRecDepth 20000 in
theorem qW_isEven_30 (G : Nat → List am_V → am_H → am_Z) (n : Nat) (a1 : Nat) (x2 : Int32) (h : am_H) : am_run 0 (fun _ => 0) cW_isEven G (n + 1) 30 [some (vr 5 74), some (vr 2 a1), some (vi x2)] h =
  if x2 < (h a1 15) then
    (am_b 8 x2 fun j1 =>
    am_b 6 (h (a1 + 7) j1) fun j2 =>
    am_b 8 x2 fun j3 =>
    am_b 6 (h (a1 + 6) j3) fun j4 =>
    am_b 8 x2 fun j5 =>
    if ((h 75 j2) - (h 75 j4)) = (h (a1 + 8) j5) then
      (am_run 0 (fun _ => 0) cW_isEven G n 30 [some (vr 5 74), some (vr 2 a1), some (vi (x2 + 1))] h)
    else some (h, some 0))
  else some (h, some 1) := rfl
set_option maxRecDepth 20000 in
theorem qW_spread_0 (G : Nat → List am_V → am_H → am_Z) (n : Nat) (a1 : Nat) (h : am_H) : am_run 0 (fun _ => 0) cW_spread G (n + 1) 0 [some (vr 5 74), some (vr 2 a1), none, none, none, none] h =
  am_run 0 (fun _ => 0) cW_spread G n 3 [some (vr 5 74), some (vr 2 a1), some (vi 1), none, none, none] h := rfl
set_option maxRecDepth 20000 in
theorem qW_spread_3 (G : Nat → List am_V → am_H → am_Z) (n : Nat) (a1 : Nat) (x2 : Int32) (u3 : Option am_V) (u4 : Option am_V) (u5 : Option am_V) (h : am_H) : am_run 0 (fun _ => 0) cW_spread G (n + 1) 3 [some (vr 5 74), some (vr 2 a1), some (vi x2), u3, u4, u5] h =
  if x2 < (h a1 14) then
    (am_run 0 (fun _ => 0) cW_spread G n 10 [some (vr 5 74), some (vr 2 a1), some (vi x2), some (vi 0), u4, u5] h)
  else some (h, none) := rfl
set_option maxRecDepth 20000 in
theorem qW_spread_10 (G : Nat → List am_V → am_H → am_Z) (n : Nat) (a1 : Nat) (x2 : Int32) (x3 : Int32) (u4 : Option am_V) (u5 : Option am_V) (h : am_H) : am_run 0 (fun _ => 0) cW_spread G (n + 1) 10 [some (vr 5 74), some (vr 2 a1), some (vi x2), some (vi x3), u4, u5] h =
  if x3 < (h a1 15) then
    (am_b 8 x3 fun j1 =>
    am_b 8 x3 fun j2 =>
    am_b 6 (h (a1 + 6) j1) fun j3 =>
    if (h 75 j3) = 536870912 then
      (am_b 6 (h (a1 + 7) j2) fun j4 =>
      if (h 75 j4) = 536870912 then
        (am_run 0 (fun _ => 0) cW_spread G n 10 [some (vr 5 74), some (vr 2 a1), some (vi x2), some (vi (x3 + 1)), some (vi (h (a1 + 6) j1)), some (vi (h (a1 + 7) j2))] h)
      else am_b 6 (h (a1 + 6) j1) fun j5 =>
      if (h 75 j5) = 536870912 then
        (am_b 6 (h (a1 + 7) j2) fun j6 =>
        am_b 8 x3 fun j7 =>
        am_b 6 (h (a1 + 6) j1) fun j8 =>
        am_run 0 (fun _ => 0) cW_spread G n 10 [some (vr 5 74), some (vr 2 a1), some (vi x2), some (vi (x3 + 1)), some (vi (h (a1 + 6) j1)), some (vi (h (a1 + 7) j2))] (am_up h 75 j8 ((h 75 j6) - (h (a1 + 8) j7))))
      else am_run 0 (fun _ => 0) cW_spread G n 10 [some (vr 5 74), some (vr 2 a1), some (vi x2), some (vi (x3 + 1)), some (vi (h (a1 + 6) j1)), some (vi (h (a1 + 7) j2))] h)
    else am_b 6 (h (a1 + 7) j2) fun j9 =>
    if (h 75 j9) = 536870912 then
      (am_b 6 (h (a1 + 6) j1) fun j10 =>
      am_b 8 x3 fun j11 =>
      am_b 6 (h (a1 + 7) j2) fun j12 =>
      am_run 0 (fun _ => 0) cW_spread G n 10 [some (vr 5 74), some (vr 2 a1), some (vi x2), some (vi (x3 + 1)), some (vi (h (a1 + 6) j1)), some (vi (h (a1 + 7) j2))] (am_up h 75 j12 ((h 75 j10) + (h (a1 + 8) j11))))
    else am_b 6 (h (a1 + 7) j2) fun j13 =>
    if (h 75 j13) = 536870912 then
      (am_run 0 (fun _ => 0) cW_spread G n 10 [some (vr 5 74), some (vr 2 a1), some (vi x2), some (vi (x3 + 1)), some (vi (h (a1 + 6) j1)), some (vi (h (a1 + 7) j2))] h)
    else am_b 6 (h (a1 + 6) j1) fun j14 =>
    if (h 75 j14) = 536870912 then
      (am_b 6 (h (a1 + 7) j2) fun j15 =>
      am_b 8 x3 fun j16 =>
      am_b 6 (h (a1 + 6) j1) fun j17 =>
      am_run 0 (fun _ => 0) cW_spread G n 10 [some (vr 5 74), some (vr 2 a1), some (vi x2), some (vi (x3 + 1)), some (vi (h (a1 + 6) j1)), some (vi (h (a1 + 7) j2))] (am_up h 75 j17 ((h 75 j15) - (h (a1 + 8) j16))))
    else am_run 0 (fun _ => 0) cW_spread G n 10 [some (vr 5 74), some (vr 2 a1), some (vi x2), some (vi (x3 + 1)), some (vi (h (a1 + 6) j1)), some (vi (h (a1 + 7) j2))] h)
  else am_run 0 (fun _ => 0) cW_spread G n 3 [some (vr 5 74), some (vr 2 a1), some (vi (x2 + 1)), some (vi x3), u4, u5] h := rfl
set_option maxRecDepth 20000 in
theorem qC_write_0 (G : Nat → List am_V → am_H → am_Z) (n : Nat) (x1 : Int32) (h : am_H) : am_run 0 (fun _ => 0) cC_write G (n + 1) 0 [some (vr 6 0), some (vi x1)] h =
  if x1 < 32 then
    (some (h, some (-1)))
  else if 126 < x1 then
    (some (h, some (-1)))
  else if (h 0 1) < 200 then
    (am_b 200 (h 0 1) fun j1 =>
    some (am_up (am_up h 1 j1 (vp_nar .char (am_i2c x1))) 0 1 ((h 0 1) + 1), some ((h 0 1) + 1)))
  else some (h, some (-3)) := rfl
set_option maxRecDepth 20000 in
theorem qC_wipe_0 (G : Nat → List am_V → am_H → am_Z) (n : Nat)  (h : am_H) : am_run 0 (fun _ => 0) cC_wipe G (n + 1) 0 [some (vr 6 0), none] h =
  some (am_up h 0 1 0, some (h 0 1)) := rfl
set_option maxRecDepth 20000 in
theorem qC_fault_0 (G : Nat → List am_V → am_H → am_Z) (n : Nat)  (h : am_H) : am_run 0 (fun _ => 0) cC_fault G (n + 1) 0 [some (vr 6 0)] h =
  am_r1 (G 18 [vr 2 (Int32.toNatClampNeg (h 0 3)), vr 9 1, vi (h 0 1)] h) fun h1 v2 =>
  some (h1, some v2) := rfl
set_option maxRecDepth 20000 in
theorem qC_lay_0 (G : Nat → List am_V → am_H → am_Z) (n : Nat)  (h : am_H) : am_run 0 (fun _ => 0) cC_lay G (n + 1) 0 [some (vr 6 0)] h =
  am_r1 (G 18 [vr 2 (Int32.toNatClampNeg (h 0 3)), vr 9 1, vi (h 0 1)] h) fun h1 v2 =>
  if v2 = (-4) then
    (if (h1 (Int32.toNatClampNeg (h1 0 3)) 16) = 0 then
      (some (h1, some (-2)))
    else am_r0 (G 81 [vr 6 0] h1) fun h3 =>
    some (h3, some (h3 (Int32.toNatClampNeg (h3 0 2)) 14)))
  else some (h1, some (-2)) := rfl
set_option maxRecDepth 20000 in
theorem qC_room_0 (G : Nat → List am_V → am_H → am_Z) (n : Nat) (x1 : Int32) (x2 : Int32) (h : am_H) : am_run 0 (fun _ => 0) cC_room G (n + 1) 0 [some (vr 6 0), some (vi x1), some (vi x2)] h =
  am_r1 (G 91 [vr 6 0, vi x1] h) fun h1 v2 =>
  if v2 = 0 then
    (some (h1, some (-1)))
  else if x2 = nI 0 then
    (am_b 6 x1 fun j3 =>
    some (h1, some (h1 ((Int32.toNatClampNeg (h1 0 2)) + 1) j3)))
  else if x2 = nI 1 then
    (am_b 6 x1 fun j4 =>
    some (h1, some (h1 ((Int32.toNatClampNeg (h1 0 2)) + 2) j4)))
  else if x2 = nI 2 then
    (am_b 6 x1 fun j5 =>
    some (h1, some (h1 ((Int32.toNatClampNeg (h1 0 2)) + 3) j5)))
  else if x2 = nI 3 then
    (am_b 6 x1 fun j6 =>
    some (h1, some (h1 ((Int32.toNatClampNeg (h1 0 2)) + 4) j6)))
  else some (h1, some (-1)) := rfl
set_option maxRecDepth 20000 in
theorem qC_clock_0 (G : Nat → List am_V → am_H → am_Z) (n : Nat) (x1 : Int32) (x2 : Int32) (x3 : Int32) (h : am_H) : am_run 0 (fun _ => 0) cC_clock G (n + 1) 0 [some (vr 6 0), some (vi x1), some (vi x2), some (vi x3), none, none, none] h =
  am_r1 (G 91 [vr 6 0, vi x1] h) fun h1 v2 =>
  if v2 = 0 then
    (some (h1, some (-1)))
  else am_r1 (G 90 [vi x2] h1) fun h3 v4 =>
  if v4 = 0 then
    (some (h3, some (-1)))
  else am_r1 (G 89 [vi x3, vi 2] h3) fun h5 v6 =>
  if v6 = 0 then
    (some (h5, some (-1)))
  else am_b 6 x1 fun j7 =>
  am_b 6 x1 fun j8 =>
  am_b 6 x1 fun j9 =>
  am_r1 (G 165 [vi (((h5 ((Int32.toNatClampNeg (h5 0 2)) + 3) j8) * (12 * (h5 ((Int32.toNatClampNeg (h5 0 2)) + 2) j7))) + (x2 * (h5 ((Int32.toNatClampNeg (h5 0 2)) + 1) j9))), vi (24 * (12 * (h5 ((Int32.toNatClampNeg (h5 0 2)) + 2) j7)))] h5) fun h10 v11 =>
  am_r1 (G 87 [vi v11, vi (12 * (h5 ((Int32.toNatClampNeg (h5 0 2)) + 2) j7))] h10) fun h12 v13 =>
  if x3 = 0 then
    (if v13 = 0 then none else
    some (h12, some (v11 / v13)))
  else if v13 = 0 then none else
  some (h12, some ((12 * (h5 ((Int32.toNatClampNeg (h5 0 2)) + 2) j7)) / v13)) := rfl
set_option maxRecDepth 20000 in
theorem qC_door_0 (G : Nat → List am_V → am_H → am_Z) (n : Nat) (x1 : Int32) (x2 : Int32) (h : am_H) : am_run 0 (fun _ => 0) cC_door G (n + 1) 0 [some (vr 6 0), some (vi x1), some (vi x2)] h =
  am_r1 (G 92 [vr 6 0, vi x1] h) fun h1 v2 =>
  if v2 = 0 then
    (some (h1, some (-1)))
  else if x2 = nI 0 then
    (am_b 8 x1 fun j3 =>
    some (h1, some (h1 ((Int32.toNatClampNeg (h1 0 2)) + 6) j3)))
  else if x2 = nI 1 then
    (am_b 8 x1 fun j4 =>
    some (h1, some (h1 ((Int32.toNatClampNeg (h1 0 2)) + 7) j4)))
  else if x2 = nI 2 then
    (am_b 8 x1 fun j5 =>
    some (h1, some ((h1 ((Int32.toNatClampNeg (h1 0 2)) + 8) j5) + 24)))
  else some (h1, some (-1)) := rfl
set_option maxRecDepth 20000 in
theorem qC_person_0 (G : Nat → List am_V → am_H → am_Z) (n : Nat) (x1 : Int32) (x2 : Int32) (h : am_H) : am_run 0 (fun _ => 0) cC_person G (n + 1) 0 [some (vr 6 0), some (vi x1), some (vi x2)] h =
  am_r1 (G 93 [vr 6 0, vi x1] h) fun h1 v2 =>
  if v2 = 0 then
    (some (h1, some (-1)))
  else if x2 = nI 0 then
    (am_b 4 x1 fun j3 =>
    some (h1, some (h1 33 j3)))
  else if x2 = nI 1 then
    (am_b 4 x1 fun j4 =>
    am_r1 (G 88 [vi (h1 34 j4)] h1) fun h5 v6 =>
    some (h5, some v6))
  else if x2 = nI 2 then
    (am_b 4 x1 fun j7 =>
    some (h1, some (h1 35 j7)))
  else if x2 = nI 3 then
    (am_r1 (G 15 [vr 1 32, vi x1] h1) fun h8 v9 =>
    some (h8, some v9))
  else if x2 = nI 4 then
    (am_r1 (G 16 [vr 1 32, vi x1] h1) fun h10 v11 =>
    some (h10, some v11))
  else some (h1, some (-1)) := rfl
set_option maxRecDepth 20000 in
theorem qC_thing_0 (G : Nat → List am_V → am_H → am_Z) (n : Nat) (x1 : Int32) (x2 : Int32) (h : am_H) : am_run 0 (fun _ => 0) cC_thing G (n + 1) 0 [some (vr 6 0), some (vi x1), some (vi x2)] h =
  am_r1 (G 94 [vr 6 0, vi x1] h) fun h1 v2 =>
  if v2 = 0 then
    (some (h1, some (-1)))
  else if x2 = nI 0 then
    (am_b 5 x1 fun j3 =>
    some (h1, some (h1 ((Int32.toNatClampNeg (h1 0 2)) + 12) j3)))
  else if x2 = nI 1 then
    (am_b 5 x1 fun j4 =>
    some (h1, some (h1 ((Int32.toNatClampNeg (h1 0 2)) + 13) j4)))
  else if x2 = nI 2 then
    (am_b 5 x1 fun j5 =>
    some (h1, some (h1 37 j5)))
  else if x2 = nI 3 then
    (am_b 5 x1 fun j6 =>
    some (h1, some (h1 38 j6)))
  else if x2 = nI 4 then
    (am_b 5 x1 fun j7 =>
    if (h1 37 j7) = (-4) then
      (some (h1, some (-4)))
    else am_b 5 x1 fun j8 =>
    am_r1 (G 88 [vi (h1 39 j8)] h1) fun h9 v10 =>
    some (h9, some v10))
  else if x2 = nI 5 then
    (am_b 5 x1 fun j11 =>
    some (h1, some ((h1 40 j11) / 144)))
  else some (h1, some (-1)) := rfl
set_option maxRecDepth 20000 in
theorem qC_worth_0 (G : Nat → List am_V → am_H → am_Z) (n : Nat) (x1 : Int32) (x2 : Int32) (h : am_H) : am_run 0 (fun _ => 0) cC_worth G (n + 1) 0 [some (vr 6 0), some (vi x1), some (vi x2)] h =
  am_r1 (G 94 [vr 6 0, vi x1] h) fun h1 v2 =>
  if v2 = 0 then
    (some (h1, some (-1)))
  else am_r1 (G 90 [vi x2] h1) fun h3 v4 =>
  if v4 = 0 then
    (some (h3, some (-1)))
  else am_b 5 x1 fun j5 =>
  if (h3 37 j5) = (-4) then
    (some (h3, some (-2)))
  else am_b 5 x1 fun j6 =>
  if x2 < (h3 39 j6) then
    (some (h3, some (-2)))
  else am_r1 (G 14 [vr 1 32, vi x1, vi x2] h3) fun h7 v8 =>
  am_r1 (G 33 [vr 2 (Int32.toNatClampNeg (h3 0 2)), vi x1, vi v8] h7) fun h9 v10 =>
  some (h9, some v10) := rfl
set_option maxRecDepth 20000 in
theorem qC_stay_0 (G : Nat → List am_V → am_H → am_Z) (n : Nat) (x1 : Int32) (x2 : Int32) (h : am_H) : am_run 0 (fun _ => 0) cC_stay G (n + 1) 0 [some (vr 6 0), some (vi x1), some (vi x2)] h =
  am_r1 (G 93 [vr 6 0, vi x1] h) fun h1 v2 =>
  if v2 = 0 then
    (some (h1, some (-1)))
  else if x2 < 1 then
    (some (h1, some (-1)))
  else if 24 < x2 then
    (some (h1, some (-1)))
  else am_r1 (G 83 [vr 6 0, vi 0, vi x1, vi x2] h1) fun h3 v4 =>
  if v4 = 0 then
    (some (h3, some (-3)))
  else am_b 4 x1 fun j5 =>
  am_r1 (G 88 [vi (h3 34 j5)] h3) fun h6 v7 =>
  some (h6, some v7) := rfl
set_option maxRecDepth 20000 in
theorem qC_go_0 (G : Nat → List am_V → am_H → am_Z) (n : Nat) (x1 : Int32) (x2 : Int32) (h : am_H) : am_run 0 (fun _ => 0) cC_go G (n + 1) 0 [some (vr 6 0), some (vi x1), some (vi x2)] h =
  am_r1 (G 93 [vr 6 0, vi x1] h) fun h1 v2 =>
  if v2 = 0 then
    (some (h1, some (-1)))
  else am_r1 (G 92 [vr 6 0, vi x2] h1) fun h3 v4 =>
  if v4 = 0 then
    (some (h3, some (-1)))
  else am_r1 (G 4 [vr 1 32, vi x1, vi x2] h3) fun h5 v6 =>
  if v6 = 0 then
    (some (h5, some (-2)))
  else am_r1 (G 83 [vr 6 0, vi 1, vi x1, vi x2] h5) fun h7 v8 =>
  if v8 = 0 then
    (some (h7, some (-3)))
  else am_b 4 x1 fun j9 =>
  am_r1 (G 88 [vi (h7 34 j9)] h7) fun h10 v11 =>
  some (h10, some v11) := rfl
set_option maxRecDepth 20000 in
theorem qC_take_0 (G : Nat → List am_V → am_H → am_Z) (n : Nat) (x1 : Int32) (x2 : Int32) (h : am_H) : am_run 0 (fun _ => 0) cC_take G (n + 1) 0 [some (vr 6 0), some (vi x1), some (vi x2)] h =
  am_r1 (G 93 [vr 6 0, vi x1] h) fun h1 v2 =>
  if v2 = 0 then
    (some (h1, some (-1)))
  else am_r1 (G 94 [vr 6 0, vi x2] h1) fun h3 v4 =>
  if v4 = 0 then
    (some (h3, some (-1)))
  else am_r1 (G 5 [vr 1 32, vi x1, vi x2] h3) fun h5 v6 =>
  if v6 = 0 then
    (some (h5, some (-2)))
  else am_r1 (G 83 [vr 6 0, vi 2, vi x1, vi x2] h5) fun h7 v8 =>
  if v8 = 0 then
    (some (h7, some (-3)))
  else am_r1 (G 15 [vr 1 32, vi x1] h7) fun h9 v10 =>
  am_r1 (G 164 [vi v10] h9) fun h11 v12 =>
  some (h11, some v12) := rfl
set_option maxRecDepth 20000 in
theorem qC_put_0 (G : Nat → List am_V → am_H → am_Z) (n : Nat) (x1 : Int32) (x2 : Int32) (h : am_H) : am_run 0 (fun _ => 0) cC_put G (n + 1) 0 [some (vr 6 0), some (vi x1), some (vi x2)] h =
  am_r1 (G 93 [vr 6 0, vi x1] h) fun h1 v2 =>
  if v2 = 0 then
    (some (h1, some (-1)))
  else am_r1 (G 94 [vr 6 0, vi x2] h1) fun h3 v4 =>
  if v4 = 0 then
    (some (h3, some (-1)))
  else am_r1 (G 6 [vr 1 32, vi x1, vi x2] h3) fun h5 v6 =>
  if v6 = 0 then
    (some (h5, some (-2)))
  else am_r1 (G 83 [vr 6 0, vi 3, vi x1, vi x2] h5) fun h7 v8 =>
  if v8 = 0 then
    (some (h7, some (-3)))
  else am_r1 (G 15 [vr 1 32, vi x1] h7) fun h9 v10 =>
  am_r1 (G 164 [vi v10] h9) fun h11 v12 =>
  some (h11, some v12) := rfl
set_option maxRecDepth 20000 in
theorem qC_undo_0 (G : Nat → List am_V → am_H → am_Z) (n : Nat)  (h : am_H) : am_run 0 (fun _ => 0) cC_undo G (n + 1) 0 [some (vr 6 0)] h =
  if (h 58 3) = 0 then
    (some (h, some (-2)))
  else am_r0 (G 82 [vr 6 0, vr 1 32, vi (-4)] (am_up h 58 3 ((h 58 3) - 1))) fun h1 =>
  some (h1, some (h1 58 3)) := rfl
set_option maxRecDepth 20000 in
theorem qC_meet_0 (G : Nat → List am_V → am_H → am_Z) (n : Nat) (x1 : Int32) (x2 : Int32) (x3 : Int32) (h : am_H) : am_run 0 (fun _ => 0) cC_meet G (n + 1) 0 [some (vr 6 0), some (vi x1), some (vi x2), some (vi x3), none, none, none, none, none, none] h =
  am_r1 (G 93 [vr 6 0, vi x1] h) fun h1 v2 =>
  if v2 = 0 then
    (some (h1, some (-1)))
  else am_r1 (G 93 [vr 6 0, vi x2] h1) fun h3 v4 =>
  if v4 = 0 then
    (some (h3, some (-1)))
  else am_r1 (G 89 [vi x3, vi 2] h3) fun h5 v6 =>
  if v6 = 0 then
    (some (h5, some (-1)))
  else am_run 0 (fun _ => 0) cC_meet G n 21 [some (vr 6 0), some (vi x1), some (vi x2), some (vi x3), some (vi 536870912), some (vi (-4)), some (vi 0), none, none, none] h5 := rfl
set_option maxRecDepth 20000 in
theorem qC_meet_21 (G : Nat → List am_V → am_H → am_Z) (n : Nat) (x1 : Int32) (x2 : Int32) (x3 : Int32) (x4 : Int32) (x5 : Int32) (x6 : Int32) (u7 : Option am_V) (u8 : Option am_V) (u9 : Option am_V) (h : am_H) : am_run 0 (fun _ => 0) cC_meet G (n + 1) 21 [some (vr 6 0), some (vi x1), some (vi x2), some (vi x3), some (vi x4), some (vi x5), some (vi x6), u7, u8, u9] h =
  if x6 < (h 32 14) then
    (am_run 0 (fun _ => 0) cC_meet G n 29 [some (vr 6 0), some (vi x1), some (vi x2), some (vi x3), some (vi x4), some (vi x5), some (vi x6), some (vi 0), u8, u9] h)
  else if x4 = 536870912 then
    (some (h, some (-4)))
  else if x3 = 0 then
    (am_r1 (G 88 [vi x4] h) fun h1 v2 =>
    some (h1, some v2))
  else some (h, some x5) := rfl
set_option maxRecDepth 20000 in
theorem qC_meet_29 (G : Nat → List am_V → am_H → am_Z) (n : Nat) (x1 : Int32) (x2 : Int32) (x3 : Int32) (x4 : Int32) (x5 : Int32) (x6 : Int32) (x7 : Int32) (u8 : Option am_V) (u9 : Option am_V) (h : am_H) : am_run 0 (fun _ => 0) cC_meet G (n + 1) 29 [some (vr 6 0), some (vi x1), some (vi x2), some (vi x3), some (vi x4), some (vi x5), some (vi x6), some (vi x7), u8, u9] h =
  if x7 < (h 32 14) then
    (if x6 = x7 then
      (am_run 0 (fun _ => 0) cC_meet G n 29 [some (vr 6 0), some (vi x1), some (vi x2), some (vi x3), some (vi x4), some (vi x5), some (vi x6), some (vi (x7 + 1)), u8, u9] h)
    else am_b 44 x6 fun j1 =>
    if (h 41 j1) = x1 then
      (am_b 44 x7 fun j2 =>
      if (h 41 j2) = x2 then
        (am_r1 (G 17 [vr 1 32, vi x6, vi x7] h) fun h3 v4 =>
        am_b 44 x6 fun j5 =>
        if v4 < x4 then
          (am_run 0 (fun _ => 0) cC_meet G n 29 [some (vr 6 0), some (vi x1), some (vi x2), some (vi x3), some (vi v4), some (vi (h3 42 j5)), some (vi x6), some (vi (x7 + 1)), some (vi v4), some (vi (h3 42 j5))] h3)
        else if v4 = x4 then
          (if v4 = 536870912 then
            (am_run 0 (fun _ => 0) cC_meet G n 29 [some (vr 6 0), some (vi x1), some (vi x2), some (vi x3), some (vi x4), some (vi x5), some (vi x6), some (vi (x7 + 1)), some (vi v4), some (vi (h3 42 j5))] h3)
          else if (h3 42 j5) < x5 then
            (am_run 0 (fun _ => 0) cC_meet G n 29 [some (vr 6 0), some (vi x1), some (vi x2), some (vi x3), some (vi v4), some (vi (h3 42 j5)), some (vi x6), some (vi (x7 + 1)), some (vi v4), some (vi (h3 42 j5))] h3)
          else am_run 0 (fun _ => 0) cC_meet G n 29 [some (vr 6 0), some (vi x1), some (vi x2), some (vi x3), some (vi x4), some (vi x5), some (vi x6), some (vi (x7 + 1)), some (vi v4), some (vi (h3 42 j5))] h3)
        else am_run 0 (fun _ => 0) cC_meet G n 29 [some (vr 6 0), some (vi x1), some (vi x2), some (vi x3), some (vi x4), some (vi x5), some (vi x6), some (vi (x7 + 1)), some (vi v4), some (vi (h3 42 j5))] h3)
      else am_run 0 (fun _ => 0) cC_meet G n 29 [some (vr 6 0), some (vi x1), some (vi x2), some (vi x3), some (vi x4), some (vi x5), some (vi x6), some (vi (x7 + 1)), u8, u9] h)
    else am_run 0 (fun _ => 0) cC_meet G n 29 [some (vr 6 0), some (vi x1), some (vi x2), some (vi x3), some (vi x4), some (vi x5), some (vi x6), some (vi (x7 + 1)), u8, u9] h)
  else am_run 0 (fun _ => 0) cC_meet G n 21 [some (vr 6 0), some (vi x1), some (vi x2), some (vi x3), some (vi x4), some (vi x5), some (vi (x6 + 1)), some (vi x7), u8, u9] h := rfl
set_option maxRecDepth 20000 in
theorem qC_early_0 (G : Nat → List am_V → am_H → am_Z) (n : Nat) (x1 : Int32) (x2 : Int32) (x3 : Int32) (x4 : Int32) (h : am_H) : am_run 0 (fun _ => 0) cC_early G (n + 1) 0 [some (vr 6 0), some (vi x1), some (vi x2), some (vi x3), some (vi x4), none, none, none, none] h =
  am_r1 (G 93 [vr 6 0, vi x1] h) fun h1 v2 =>
  if v2 = 0 then
    (some (h1, some (-1)))
  else am_r1 (G 91 [vr 6 0, vi x2] h1) fun h3 v4 =>
  if v4 = 0 then
    (some (h3, some (-1)))
  else if x3 < 0 then
    (some (h3, some (-1)))
  else if 8 < x3 then
    (some (h3, some (-1)))
  else am_r1 (G 89 [vi x4, vi 3] h3) fun h5 v6 =>
  if v6 = 0 then
    (some (h5, some (-1)))
  else am_b 4 x1 fun j7 =>
  am_b 4 x1 fun j8 =>
  am_r0 (G 44 [vr 5 74, vi (h5 33 j7), vi (h5 34 j8)] h5) fun h9 =>
  am_run 0 (fun _ => 0) cC_early G n 41 [some (vr 6 0), some (vi x1), some (vi x2), some (vi x3), some (vi x4), some (vi 536870912), some (vi (-4)), some (vi (-4)), some (vi 0)] h9 := rfl
set_option maxRecDepth 20000 in
theorem qC_early_41 (G : Nat → List am_V → am_H → am_Z) (n : Nat) (x1 : Int32) (x2 : Int32) (x3 : Int32) (x4 : Int32) (x5 : Int32) (x6 : Int32) (x7 : Int32) (x8 : Int32) (h : am_H) : am_run 0 (fun _ => 0) cC_early G (n + 1) 41 [some (vr 6 0), some (vi x1), some (vi x2), some (vi x3), some (vi x4), some (vi x5), some (vi x6), some (vi x7), some (vi x8)] h =
  if x3 < x8 then
    (if x5 = 536870912 then
      (some (h, some (-4)))
    else if x4 = 0 then
      (am_r1 (G 88 [vi x5] h) fun h1 v2 =>
      some (h1, some v2))
    else if x4 = 1 then
      (some (h, some x6))
    else some (h, some x7))
  else am_b 6 x2 fun j3 =>
  if (h 75 j3) < x5 then
    (am_b 6 x2 fun j4 =>
    am_b 6 x2 fun j5 =>
    am_r0 (G 45 [vr 5 74, vr 2 (Int32.toNatClampNeg (h 0 2))] h) fun h6 =>
    am_run 0 (fun _ => 0) cC_early G n 41 [some (vr 6 0), some (vi x1), some (vi x2), some (vi x3), some (vi x4), some (vi (h 75 j4)), some (vi x8), some (vi (h 77 j5)), some (vi (x8 + 1))] h6)
  else am_r0 (G 45 [vr 5 74, vr 2 (Int32.toNatClampNeg (h 0 2))] h) fun h7 =>
  am_run 0 (fun _ => 0) cC_early G n 41 [some (vr 6 0), some (vi x1), some (vi x2), some (vi x3), some (vi x4), some (vi x5), some (vi x6), some (vi x7), some (vi (x8 + 1))] h7 := rfl
set_option maxRecDepth 20000 in
theorem qC_ring_0 (G : Nat → List am_V → am_H → am_Z) (n : Nat) (x1 : Int32) (h : am_H) : am_run 0 (fun _ => 0) cC_ring G (n + 1) 0 [some (vr 6 0), some (vi x1), none, none, none, none, none] h =
  am_r1 (G 89 [vi x1, vi 3] h) fun h1 v2 =>
  if v2 = 0 then
    (some (h1, some (-1)))
  else am_run 0 (fun _ => 0) cC_ring G n 15 [some (vr 6 0), some (vi x1), some (vi 9), some (vi (-4)), some (vi (-4)), some (vi 0), none] h1 := rfl
set_option maxRecDepth 20000 in
theorem qC_ring_15 (G : Nat → List am_V → am_H → am_Z) (n : Nat) (x1 : Int32) (x2 : Int32) (x3 : Int32) (x4 : Int32) (x5 : Int32) (u6 : Option am_V) (h : am_H) : am_run 0 (fun _ => 0) cC_ring G (n + 1) 15 [some (vr 6 0), some (vi x1), some (vi x2), some (vi x3), some (vi x4), some (vi x5), u6] h =
  if x5 < (h (Int32.toNatClampNeg (h 0 2)) 14) then
    (am_r0 (G 44 [vr 5 74, vi x5, vi 0] h) fun h1 =>
    am_run 0 (fun _ => 0) cC_ring G n 28 [some (vr 6 0), some (vi x1), some (vi x2), some (vi x3), some (vi x4), some (vi x5), some (vi 1)] h1)
  else if x3 = (-4) then
    (some (h, some (-4)))
  else if x1 = 0 then
    (some (h, some x2))
  else if x1 = 1 then
    (some (h, some x3))
  else some (h, some x4) := rfl
set_option maxRecDepth 20000 in
theorem qC_ring_28 (G : Nat → List am_V → am_H → am_Z) (n : Nat) (x1 : Int32) (x2 : Int32) (x3 : Int32) (x4 : Int32) (x5 : Int32) (x6 : Int32) (h : am_H) : am_run 0 (fun _ => 0) cC_ring G (n + 1) 28 [some (vr 6 0), some (vi x1), some (vi x2), some (vi x3), some (vi x4), some (vi x5), some (vi x6)] h =
  if x6 < x2 then
    (am_r0 (G 45 [vr 5 74, vr 2 (Int32.toNatClampNeg (h 0 2))] h) fun h1 =>
    am_b 6 x5 fun j2 =>
    if (h1 75 j2) < 0 then
      (am_b 6 x5 fun j3 =>
      am_run 0 (fun _ => 0) cC_ring G n 28 [some (vr 6 0), some (vi x1), some (vi x6), some (vi x5), some (vi (-(h1 75 j3))), some (vi x5), some (vi (x6 + 1))] h1)
    else am_run 0 (fun _ => 0) cC_ring G n 28 [some (vr 6 0), some (vi x1), some (vi x2), some (vi x3), some (vi x4), some (vi x5), some (vi (x6 + 1))] h1)
  else am_run 0 (fun _ => 0) cC_ring G n 15 [some (vr 6 0), some (vi x1), some (vi x2), some (vi x3), some (vi x4), some (vi (x5 + 1)), some (vi x6)] h := rfl
set_option maxRecDepth 20000 in
theorem qC_even_0 (G : Nat → List am_V → am_H → am_Z) (n : Nat)  (h : am_H) : am_run 0 (fun _ => 0) cC_even G (n + 1) 0 [some (vr 6 0)] h =
  am_r1 (G 47 [vr 5 74, vr 2 (Int32.toNatClampNeg (h 0 2))] h) fun h1 v2 =>
  if v2 = 0 then
    (some (h1, some 0))
  else some (h1, some 1) := rfl
set_option maxRecDepth 20000 in
theorem qC_round_0 (G : Nat → List am_V → am_H → am_Z) (n : Nat) (x1 : Int32) (x2 : Int32) (x3 : Int32) (h : am_H) : am_run 0 (fun _ => 0) cC_round G (n + 1) 0 [some (vr 6 0), some (vi x1), some (vi x2), some (vi x3)] h =
  am_r1 (G 93 [vr 6 0, vi x1] h) fun h1 v2 =>
  if v2 = 0 then
    (some (h1, some (-1)))
  else if x2 < 0 then
    (some (h1, some (-1)))
  else if x2 < ((1 : Int32) <<< ((h1 (Int32.toNatClampNeg (h1 0 2)) 14) &&& 31)) then
    (am_r1 (G 89 [vi x3, vi 2] h1) fun h3 v4 =>
    if v4 = 0 then
      (some (h3, some (-1)))
    else am_b 4 x1 fun j5 =>
    am_b 4 x1 fun j6 =>
    am_r0 (G 39 [vr 4 79, vr 2 (Int32.toNatClampNeg (h3 0 2)), vi x2, vi (h3 33 j5), vi (h3 34 j6)] h3) fun h7 =>
    if (h7 79 3) = (-4) then
      (some (h7, some (-4)))
    else if x3 = 0 then
      (am_r1 (G 88 [vi (h7 79 2)] h7) fun h8 v9 =>
      some (h8, some v9))
    else some (h7, some (h7 79 3)))
  else some (h1, some (-1)) := rfl
set_option maxRecDepth 20000 in
theorem qC_hour_0 (G : Nat → List am_V → am_H → am_Z) (n : Nat) (x1 : Int32) (x2 : Int32) (x3 : Int32) (h : am_H) : am_run 0 (fun _ => 0) cC_hour G (n + 1) 0 [some (vr 6 0), some (vi x1), some (vi x2), some (vi x3), none, none] h =
  am_r1 (G 93 [vr 6 0, vi x1] h) fun h1 v2 =>
  if v2 = 0 then
    (some (h1, some (-1)))
  else am_r1 (G 89 [vi x2, vi 24] h1) fun h3 v4 =>
  if v4 = 0 then
    (some (h3, some (-1)))
  else am_b 4 x1 fun j5 =>
  am_b 4 x1 fun j6 =>
  if x3 = nI 0 then
    (am_r1 (G 85 [vi (h3 34 j6), vi (x2 * 12), vi 12] h3) fun h7 v8 =>
    am_r1 (G 88 [vi v8] h7) fun h9 v10 =>
    some (h9, some v10))
  else if x3 = nI 1 then
    (am_b 6 (h3 33 j5) fun j11 =>
    am_b 6 (h3 33 j5) fun j12 =>
    am_b 6 (h3 33 j5) fun j13 =>
    am_r1 (G 85 [vi (h3 34 j6), vi ((x2 - (h3 ((Int32.toNatClampNeg (h3 0 2)) + 3) j11)) * (h3 ((Int32.toNatClampNeg (h3 0 2)) + 4) j12)), vi (h3 ((Int32.toNatClampNeg (h3 0 2)) + 4) j13)] h3) fun h14 v15 =>
    am_r1 (G 88 [vi v15] h14) fun h16 v17 =>
    some (h16, some v17))
  else if x3 = nI 2 then
    (am_r1 (G 84 [vr 6 0, vi x1, vi x2] h3) fun h18 v19 =>
    am_r1 (G 88 [vi v19] h18) fun h20 v21 =>
    some (h20, some v21))
  else some (h3, some (-1)) := rfl
set_option maxRecDepth 20000 in
theorem qC_agreed_0 (G : Nat → List am_V → am_H → am_Z) (n : Nat) (x1 : Int32) (x2 : Int32) (x3 : Int32) (h : am_H) : am_run 0 (fun _ => 0) cC_agreed G (n + 1) 0 [some (vr 6 0), some (vi x1), some (vi x2), some (vi x3), none, none, none, none] h =
  am_r1 (G 93 [vr 6 0, vi x1] h) fun h1 v2 =>
  if v2 = 0 then
    (some (h1, some (-1)))
  else am_r1 (G 93 [vr 6 0, vi x2] h1) fun h3 v4 =>
  if v4 = 0 then
    (some (h3, some (-1)))
  else if x1 = x2 then
    (some (h3, some (-1)))
  else am_r1 (G 89 [vi x3, vi 24] h3) fun h5 v6 =>
  if v6 = 0 then
    (some (h5, some (-1)))
  else am_r1 (G 84 [vr 6 0, vi x2, vi x3] h5) fun h7 v8 =>
  am_b 4 x1 fun j9 =>
  am_b 6 (h7 33 j9) fun j10 =>
  am_b 4 x2 fun j11 =>
  am_b 6 (h7 33 j11) fun j12 =>
  if (24 * (h7 ((Int32.toNatClampNeg (h7 0 2)) + 4) j10)) < 1 then
    (some (h7, some (-4)))
  else if (24 * (h7 ((Int32.toNatClampNeg (h7 0 2)) + 4) j12)) < 1 then
    (some (h7, some (-4)))
  else am_r1 (G 84 [vr 6 0, vi x1, vi x3] h7) fun h13 v14 =>
  am_run 0 (fun _ => 0) cC_agreed G n 60 [some (vr 6 0), some (vi x1), some (vi x2), some (vi x3), some (vi v8), some (vi (24 * (h7 ((Int32.toNatClampNeg (h7 0 2)) + 4) j10))), some (vi (24 * (h7 ((Int32.toNatClampNeg (h7 0 2)) + 4) j12))), some (vi v14)] h13 := rfl
set_option maxRecDepth 20000 in
theorem qC_agreed_60 (G : Nat → List am_V → am_H → am_Z) (n : Nat) (x1 : Int32) (x2 : Int32) (x3 : Int32) (x4 : Int32) (x5 : Int32) (x6 : Int32) (x7 : Int32) (h : am_H) : am_run 0 (fun _ => 0) cC_agreed G (n + 1) 60 [some (vr 6 0), some (vi x1), some (vi x2), some (vi x3), some (vi x4), some (vi x5), some (vi x6), some (vi x7)] h =
  if 9999 < x7 then
    (some (h, some (-4)))
  else if x7 < x4 then
    (am_run 0 (fun _ => 0) cC_agreed G n 60 [some (vr 6 0), some (vi x1), some (vi x2), some (vi x3), some (vi x4), some (vi x5), some (vi x6), some (vi (x7 + x5))] h)
  else if x6 = 0 then none else
  if (am_rem (x7 - x4) x6) = 0 then
    (am_r1 (G 88 [vi x7] h) fun h1 v2 =>
    some (h1, some v2))
  else am_run 0 (fun _ => 0) cC_agreed G n 60 [some (vr 6 0), some (vi x1), some (vi x2), some (vi x3), some (vi x4), some (vi x5), some (vi x6), some (vi (x7 + x5))] h := rfl
set_option maxRecDepth 20000 in
theorem qC_shelf_0 (G : Nat → List am_V → am_H → am_Z) (n : Nat) (x1 : Int32) (x2 : Int32) (h : am_H) : am_run 0 (fun _ => 0) cC_shelf G (n + 1) 0 [some (vr 6 0), some (vi x1), some (vi x2), none, none, none, none, none] h =
  am_r1 (G 94 [vr 6 0, vi x1] h) fun h1 v2 =>
  if v2 = 0 then
    (some (h1, some (-1)))
  else if x2 < 1 then
    (some (h1, some (-1)))
  else if 99 < x2 then
    (some (h1, some (-1)))
  else am_run 0 (fun _ => 0) cC_shelf G n 19 [some (vr 6 0), some (vi x1), some (vi x2), some (vi (-4)), some (vi (-1)), some (vi 0), none, none] h1 := rfl
set_option maxRecDepth 20000 in
theorem qC_shelf_19 (G : Nat → List am_V → am_H → am_Z) (n : Nat) (x1 : Int32) (x2 : Int32) (x3 : Int32) (x4 : Int32) (x5 : Int32) (u6 : Option am_V) (u7 : Option am_V) (h : am_H) : am_run 0 (fun _ => 0) cC_shelf G (n + 1) 19 [some (vr 6 0), some (vi x1), some (vi x2), some (vi x3), some (vi x4), some (vi x5), u6, u7] h =
  if x5 < (h (Int32.toNatClampNeg (h 0 2)) 14) then
    (am_b 5 x1 fun j1 =>
    am_b 6 x5 fun j2 =>
    am_r1 (G 33 [vr 2 (Int32.toNatClampNeg (h 0 2)), vi x1, vi ((h 40 j1) + ((x2 * 12) * (h ((Int32.toNatClampNeg (h 0 2)) + 5) j2)))] h) fun h3 v4 =>
    if x4 < v4 then
      (am_run 0 (fun _ => 0) cC_shelf G n 19 [some (vr 6 0), some (vi x1), some (vi x2), some (vi x5), some (vi v4), some (vi (x5 + 1)), some (vi ((h 40 j1) + ((x2 * 12) * (h ((Int32.toNatClampNeg (h 0 2)) + 5) j2)))), some (vi v4)] h3)
    else am_run 0 (fun _ => 0) cC_shelf G n 19 [some (vr 6 0), some (vi x1), some (vi x2), some (vi x3), some (vi x4), some (vi (x5 + 1)), some (vi ((h 40 j1) + ((x2 * 12) * (h ((Int32.toNatClampNeg (h 0 2)) + 5) j2)))), some (vi v4)] h3)
  else some (h, some x3) := rfl
set_option maxRecDepth 20000 in
theorem qC_seen_0 (G : Nat → List am_V → am_H → am_Z) (n : Nat) (x1 : Int32) (x2 : Int32) (x3 : Int32) (h : am_H) : am_run 0 (fun _ => 0) cC_seen G (n + 1) 0 [some (vr 6 0), some (vi x1), some (vi x2), some (vi x3)] h =
  am_r1 (G 91 [vr 6 0, vi x1] h) fun h1 v2 =>
  if v2 = 0 then
    (some (h1, some (-1)))
  else if x2 < 1 then
    (some (h1, some (-1)))
  else if 99 < x2 then
    (some (h1, some (-1)))
  else if x3 < 0 then
    (some (h1, some (-1)))
  else if 400 < x3 then
    (some (h1, some (-1)))
  else am_r1 (G 34 [vr 3 70, vi x1, vi x2, vi x3] h1) fun h3 v4 =>
  if v4 = 0 then
    (some (h3, some (-3)))
  else some (h3, some (h3 70 3)) := rfl
set_option maxRecDepth 20000 in
theorem qC_forget_0 (G : Nat → List am_V → am_H → am_Z) (n : Nat)  (h : am_H) : am_run 0 (fun _ => 0) cC_forget G (n + 1) 0 [some (vr 6 0), none] h =
  some (am_up h 70 3 0, some (h 70 3)) := rfl
set_option maxRecDepth 20000 in
theorem qC_paces_0 (G : Nat → List am_V → am_H → am_Z) (n : Nat) (x1 : Int32) (h : am_H) : am_run 0 (fun _ => 0) cC_paces G (n + 1) 0 [some (vr 6 0), some (vi x1)] h =
  am_r1 (G 91 [vr 6 0, vi x1] h) fun h1 v2 =>
  if v2 = 0 then
    (some (h1, some (-1)))
  else am_r1 (G 35 [vr 3 70, vi x1] h1) fun h3 v4 =>
  some (h3, some v4) := rfl
set_option maxRecDepth 20000 in
theorem qC_look_0 (G : Nat → List am_V → am_H → am_Z) (n : Nat) (x1 : Int32) (x2 : Int32) (h : am_H) : am_run 0 (fun _ => 0) cC_look G (n + 1) 0 [some (vr 6 0), some (vi x1), some (vi x2), none, none, none, none, none] h =
  am_r1 (G 91 [vr 6 0, vi x1] h) fun h1 v2 =>
  if v2 = 0 then
    (some (h1, some (-1)))
  else am_r1 (G 89 [vi x2, vi 2] h1) fun h3 v4 =>
  if v4 = 0 then
    (some (h3, some (-1)))
  else am_r1 (G 35 [vr 3 70, vi x1] h3) fun h5 v6 =>
  if v6 = 0 then
    (some (h5, some (-4)))
  else am_run 0 (fun _ => 0) cC_look G n 26 [some (vr 6 0), some (vi x1), some (vi x2), some (vi v6), some (vi (-4)), some (vi 536870912), some (vi 1), none] h5 := rfl
set_option maxRecDepth 20000 in
theorem qC_look_26 (G : Nat → List am_V → am_H → am_Z) (n : Nat) (x1 : Int32) (x2 : Int32) (x3 : Int32) (x4 : Int32) (x5 : Int32) (x6 : Int32) (u7 : Option am_V) (h : am_H) : am_run 0 (fun _ => 0) cC_look G (n + 1) 26 [some (vr 6 0), some (vi x1), some (vi x2), some (vi x3), some (vi x4), some (vi x5), some (vi x6), u7] h =
  if 24 < x6 then
    (if x2 = 0 then
      (some (h, some x4))
    else some (h, some x5))
  else am_r1 (G 37 [vr 3 70, vi x3, vi x6] h) fun h1 v2 =>
  if v2 < x5 then
    (am_run 0 (fun _ => 0) cC_look G n 26 [some (vr 6 0), some (vi x1), some (vi x2), some (vi x3), some (vi x6), some (vi v2), some (vi (x6 + 1)), some (vi v2)] h1)
  else am_run 0 (fun _ => 0) cC_look G n 26 [some (vr 6 0), some (vi x1), some (vi x2), some (vi x3), some (vi x4), some (vi x5), some (vi (x6 + 1)), some (vi v2)] h1 := rfl
set_option maxRecDepth 20000 in
theorem qC_mended_0 (G : Nat → List am_V → am_H → am_Z) (n : Nat) (x1 : Int32) (h : am_H) : am_run 0 (fun _ => 0) cC_mended G (n + 1) 0 [some (vr 6 0), some (vi x1), none, none] h =
  am_r1 (G 91 [vr 6 0, vi x1] h) fun h1 v2 =>
  if v2 = 0 then
    (some (h1, some (-1)))
  else am_r0 (G 82 [vr 6 0, vr 1 45, vi x1] h1) fun h3 =>
  am_run 0 (fun _ => 0) cC_mended G n 16 [some (vr 6 0), some (vi x1), some (vi 0), some (vi 0)] h3 := rfl
set_option maxRecDepth 20000 in
theorem qC_mended_16 (G : Nat → List am_V → am_H → am_Z) (n : Nat) (x1 : Int32) (x2 : Int32) (x3 : Int32) (h : am_H) : am_run 0 (fun _ => 0) cC_mended G (n + 1) 16 [some (vr 6 0), some (vi x1), some (vi x2), some (vi x3)] h =
  if x3 < (h (Int32.toNatClampNeg (h 0 2)) 16) then
    (am_b 4 x3 fun j1 =>
    am_b 4 x3 fun j2 =>
    if (h 47 j1) = (h 34 j2) then
      (am_run 0 (fun _ => 0) cC_mended G n 16 [some (vr 6 0), some (vi x1), some (vi x2), some (vi (x3 + 1))] h)
    else am_run 0 (fun _ => 0) cC_mended G n 16 [some (vr 6 0), some (vi x1), some (vi (x2 ||| ((1 : Int32) <<< (x3 &&& 31)))), some (vi (x3 + 1))] h)
  else some (h, some x2) := rfl
set_option maxRecDepth 20000 in
theorem qC_day_0 (G : Nat → List am_V → am_H → am_Z) (n : Nat) (x1 : Int32) (x2 : Int32) (x3 : Int32) (h : am_H) : am_run 0 (fun _ => 0) cC_day G (n + 1) 0 [some (vr 6 0), some (vi x1), some (vi x2), some (vi x3), none, none, none, none, none] h =
  am_r1 (G 89 [vi x1, vi 10000] h) fun h1 v2 =>
  if v2 = 0 then
    (some (h1, some (-1)))
  else am_r1 (G 93 [vr 6 0, vi x2] h1) fun h3 v4 =>
  if v4 = 0 then
    (some (h3, some (-1)))
  else am_r1 (G 89 [vi x3, vi 2] h3) fun h5 v6 =>
  if v6 = 0 then
    (some (h5, some (-1)))
  else am_b 4 x2 fun j7 =>
  am_b 4 x2 fun j8 =>
  am_run 0 (fun _ => 0) cC_day G n 29 [some (vr 6 0), some (vi x1), some (vi x2), some (vi x3), some (vi (h5 33 j7)), some (vi (h5 34 j8)), some (vi 0), none, none] h5 := rfl
set_option maxRecDepth 20000 in
theorem qC_day_29 (G : Nat → List am_V → am_H → am_Z) (n : Nat) (x1 : Int32) (x2 : Int32) (x3 : Int32) (x4 : Int32) (x5 : Int32) (x6 : Int32) (u7 : Option am_V) (u8 : Option am_V) (h : am_H) : am_run 0 (fun _ => 0) cC_day G (n + 1) 29 [some (vr 6 0), some (vi x1), some (vi x2), some (vi x3), some (vi x4), some (vi x5), some (vi x6), u7, u8] h =
  if x6 < 12 then
    (am_r1 (G 86 [vi x1, vi x6] h) fun h1 v2 =>
    if (am_rem v2 3) = 0 then
      (am_b 6 x4 fun j3 =>
      am_run 0 (fun _ => 0) cC_day G n 29 [some (vr 6 0), some (vi x1), some (vi x2), some (vi x3), some (vi x4), some (vi (x5 + (((am_rem (v2 / 4) 3) + 1) * (h1 ((Int32.toNatClampNeg (h1 0 2)) + 4) j3)))), some (vi (x6 + 1)), some (vi v2), u8] h1)
    else if 0 < (h1 (Int32.toNatClampNeg (h1 0 2)) 15) then
      (if h1 (Int32.toNatClampNeg (h1 0 2)) 15 = 0 then none else
      am_r1 (G 29 [vr 2 (Int32.toNatClampNeg (h1 0 2)), vi (am_rem (v2 / 8) (h1 (Int32.toNatClampNeg (h1 0 2)) 15)), vi x4] h1) fun h4 v5 =>
      if v5 = 0 then
        (am_run 0 (fun _ => 0) cC_day G n 29 [some (vr 6 0), some (vi x1), some (vi x2), some (vi x3), some (vi x4), some (vi x5), some (vi (x6 + 1)), some (vi v2), some (vi (am_rem (v2 / 8) (h1 (Int32.toNatClampNeg (h1 0 2)) 15)))] h4)
      else am_r1 (G 32 [vr 2 (Int32.toNatClampNeg (h4 0 2)), vi (am_rem (v2 / 8) (h1 (Int32.toNatClampNeg (h1 0 2)) 15)), vi x4] h4) fun h6 v7 =>
      am_r1 (G 30 [vr 2 (Int32.toNatClampNeg (h6 0 2)), vi (am_rem (v2 / 8) (h1 (Int32.toNatClampNeg (h1 0 2)) 15)), vi x4] h6) fun h8 v9 =>
      am_run 0 (fun _ => 0) cC_day G n 29 [some (vr 6 0), some (vi x1), some (vi x2), some (vi x3), some (vi v9), some (vi (x5 + v7)), some (vi (x6 + 1)), some (vi v2), some (vi (am_rem (v2 / 8) (h1 (Int32.toNatClampNeg (h1 0 2)) 15)))] h8)
    else am_run 0 (fun _ => 0) cC_day G n 29 [some (vr 6 0), some (vi x1), some (vi x2), some (vi x3), some (vi x4), some (vi x5), some (vi (x6 + 1)), some (vi v2), u8] h1)
  else if x3 = 0 then
    (am_r1 (G 88 [vi x5] h) fun h10 v11 =>
    some (h10, some v11))
  else some (h, some x4) := rfl
set_option maxRecDepth 20000 in
theorem qC_keep_0 (G : Nat → List am_V → am_H → am_Z) (n : Nat)  (h : am_H) : am_run 0 (fun _ => 0) cC_keep G (n + 1) 0 [some (vr 6 0)] h =
  if (h 0 9) < 2 then
    (if (h 0 9) = 0 then
      (am_r0 (G 1 [vr 0 62, vr 0 58] h) fun h1 =>
      some (am_up h1 0 9 ((h1 0 9) + 1), some ((h1 0 9) + 1)))
    else am_r0 (G 1 [vr 0 66, vr 0 58] h) fun h2 =>
    some (am_up h2 0 9 ((h2 0 9) + 1), some ((h2 0 9) + 1)))
  else some (h, some (-3)) := rfl
set_option maxRecDepth 20000 in
theorem qC_back_0 (G : Nat → List am_V → am_H → am_Z) (n : Nat)  (h : am_H) : am_run 0 (fun _ => 0) cC_back G (n + 1) 0 [some (vr 6 0)] h =
  if (h 0 9) = 0 then
    (some (h, some (-2)))
  else if ((h 0 9) - 1) = 0 then
    (am_r0 (G 1 [vr 0 58, vr 0 62] (am_up h 0 9 ((h 0 9) - 1))) fun h1 =>
    am_r0 (G 82 [vr 6 0, vr 1 32, vi (-4)] h1) fun h2 =>
    some (h2, some (h2 0 9)))
  else am_r0 (G 1 [vr 0 58, vr 0 66] (am_up h 0 9 ((h 0 9) - 1))) fun h3 =>
  am_r0 (G 82 [vr 6 0, vr 1 32, vi (-4)] h3) fun h4 =>
  some (h4, some (h4 0 9)) := rfl
set_option maxRecDepth 20000 in
theorem qC_count_0 (G : Nat → List am_V → am_H → am_Z) (n : Nat) (x1 : Int32) (h : am_H) : am_run 0 (fun _ => 0) cC_count G (n + 1) 0 [some (vr 6 0), some (vi x1)] h =
  if x1 = nI 0 then
    (some (h, some (h (Int32.toNatClampNeg (h 0 2)) 14)))
  else if x1 = nI 1 then
    (some (h, some (h (Int32.toNatClampNeg (h 0 2)) 15)))
  else if x1 = nI 2 then
    (some (h, some (h (Int32.toNatClampNeg (h 0 2)) 16)))
  else if x1 = nI 3 then
    (some (h, some (h (Int32.toNatClampNeg (h 0 2)) 17)))
  else if x1 = nI 4 then
    (some (h, some (h 58 3)))
  else if x1 = nI 5 then
    (some (h, some (h 70 3)))
  else if x1 = nI 6 then
    (some (h, some (h 0 9)))
  else if x1 = nI 7 then
    (some (h, some (h 0 1)))
  else if x1 = nI 8 then
    (some (h, some (h (Int32.toNatClampNeg (h 0 2)) 18)))
  else some (h, some (-1)) := rfl
set_option maxRecDepth 20000 in
theorem qC_moveIn_0 (G : Nat → List am_V → am_H → am_Z) (n : Nat)  (h : am_H) : am_run 0 (fun _ => 0) cC_moveIn G (n + 1) 0 [some (vr 6 0), none] h =
  am_r0 (G 2 [vr 1 32, vr 2 (Int32.toNatClampNeg (nI (Int32.toNatClampNeg (h 0 3)))), vi (-4)] (am_up (am_up (am_up (am_up (am_up h 0 2 (nI (Int32.toNatClampNeg (h 0 3)))) 0 3 (nI (Int32.toNatClampNeg (h 0 2)))) 58 3 0) 70 3 0) 0 9 0)) fun h1 =>
  some (h1, none) := rfl
set_option maxRecDepth 20000 in
theorem qC_doAgain_0 (G : Nat → List am_V → am_H → am_Z) (n : Nat) (a1 : Nat) (x2 : Int32) (h : am_H) : am_run 0 (fun _ => 0) cC_doAgain G (n + 1) 0 [some (vr 6 0), some (vr 1 a1), some (vi x2), none] h =
  am_r0 (G 2 [vr 1 a1, vr 2 (Int32.toNatClampNeg (h 0 2)), vi x2] h) fun h1 =>
  am_run 0 (fun _ => 0) cC_doAgain G n 8 [some (vr 6 0), some (vr 1 a1), some (vi x2), some (vi 0)] h1 := rfl
set_option maxRecDepth 20000 in
theorem qC_doAgain_8 (G : Nat → List am_V → am_H → am_Z) (n : Nat) (a1 : Nat) (x2 : Int32) (x3 : Int32) (h : am_H) : am_run 0 (fun _ => 0) cC_doAgain G (n + 1) 8 [some (vr 6 0), some (vr 1 a1), some (vi x2), some (vi x3)] h =
  if x3 < (h 58 3) then
    (am_b 40 x3 fun j1 =>
    am_b 40 x3 fun j2 =>
    am_b 40 x3 fun j3 =>
    am_r0 (G 3 [vr 1 a1, vi (h 59 j1), vi (h 60 j2), vi (h 61 j3)] h) fun h4 =>
    am_run 0 (fun _ => 0) cC_doAgain G n 8 [some (vr 6 0), some (vr 1 a1), some (vi x2), some (vi (x3 + 1))] h4)
  else some (h, none) := rfl
set_option maxRecDepth 20000 in
theorem qC_act_0 (G : Nat → List am_V → am_H → am_Z) (n : Nat) (x1 : Int32) (x2 : Int32) (x3 : Int32) (h : am_H) : am_run 0 (fun _ => 0) cC_act G (n + 1) 0 [some (vr 6 0), some (vi x1), some (vi x2), some (vi x3)] h =
  am_r1 (G 0 [vr 0 58, vi x1, vi x2, vi x3] h) fun h1 v2 =>
  if v2 = 0 then
    (some (h1, some 0))
  else am_r0 (G 3 [vr 1 32, vi x1, vi x2, vi x3] h1) fun h3 =>
  some (h3, some 1) := rfl
set_option maxRecDepth 20000 in
theorem qC_nextOwnHour_0 (G : Nat → List am_V → am_H → am_Z) (n : Nat) (x1 : Int32) (x2 : Int32) (h : am_H) : am_run 0 (fun _ => 0) cC_nextOwnHour G (n + 1) 0 [some (vr 6 0), some (vi x1), some (vi x2), none] h =
  am_b 4 x1 fun j1 =>
  am_b 6 (h 33 j1) fun j2 =>
  am_b 4 x1 fun j3 =>
  am_b 4 x1 fun j4 =>
  am_b 4 x1 fun j5 =>
  am_r1 (G 85 [vi (h 34 j3), vi ((h 34 j4) + ((x2 - (h 35 j5)) * (h ((Int32.toNatClampNeg (h 0 2)) + 4) j2))), vi (h ((Int32.toNatClampNeg (h 0 2)) + 4) j2)] h) fun h6 v7 =>
  some (h6, some v7) := rfl
set_option maxRecDepth 20000 in
theorem qC_nextTick_0 (G : Nat → List am_V → am_H → am_Z) (n : Nat) (x0 : Int32) (x1 : Int32) (x2 : Int32) (h : am_H) : am_run 0 (fun _ => 0) cC_nextTick G (n + 1) 0 [some (vi x0), some (vi x1), some (vi x2), none] h =
  if (24 * x2) < 1 then
    (some (h, some x0))
  else am_r1 (G 165 [vi (x1 - x0), vi (24 * x2)] h) fun h1 v2 =>
  some (h1, some (x0 + v2)) := rfl
set_option maxRecDepth 20000 in
theorem qC_drawOf_0 (G : Nat → List am_V → am_H → am_Z) (n : Nat) (x0 : Int32) (x1 : Int32) (h : am_H) : am_run 0 (fun _ => 0) cC_drawOf G (n + 1) 0 [some (vi x0), some (vi x1), none, none] h =
  if Int32.toInt64 65521 = 0 then none else
  some (h, some (Int64.toInt32 (am_reml (((((Int32.toInt64 7919) * (Int32.toInt64 x0)) + ((Int32.toInt64 6151) * (Int32.toInt64 x1))) + (Int32.toInt64 1)) * ((((Int32.toInt64 7919) * (Int32.toInt64 x0)) + ((Int32.toInt64 6151) * (Int32.toInt64 x1))) + (Int32.toInt64 1))) (Int32.toInt64 65521)))) := rfl
set_option maxRecDepth 20000 in
theorem qC_commonDivisor_0 (G : Nat → List am_V → am_H → am_Z) (n : Nat) (x0 : Int32) (x1 : Int32) (h : am_H) : am_run 0 (fun _ => 0) cC_commonDivisor G (n + 1) 0 [some (vi x0), some (vi x1), none, none, none, none] h =
  am_run 0 (fun _ => 0) cC_commonDivisor G n 7 [some (vi x0), some (vi x1), some (vi x0), some (vi x1), some (vi 0), none] h := rfl
set_option maxRecDepth 20000 in
theorem qC_commonDivisor_7 (G : Nat → List am_V → am_H → am_Z) (n : Nat) (x0 : Int32) (x1 : Int32) (x2 : Int32) (x3 : Int32) (x4 : Int32) (u5 : Option am_V) (h : am_H) : am_run 0 (fun _ => 0) cC_commonDivisor G (n + 1) 7 [some (vi x0), some (vi x1), some (vi x2), some (vi x3), some (vi x4), u5] h =
  if x4 < 64 then
    (if x3 = 0 then
      (am_r1 (G 166 [vi x2, vi 1] h) fun h1 v2 =>
      some (h1, some v2))
    else if x3 = 0 then none else
    am_run 0 (fun _ => 0) cC_commonDivisor G n 7 [some (vi x0), some (vi x1), some (vi x3), some (vi (am_rem x2 x3)), some (vi (x4 + 1)), some (vi (am_rem x2 x3))] h)
  else am_r1 (G 166 [vi x2, vi 1] h) fun h3 v4 =>
  some (h3, some v4) := rfl
set_option maxRecDepth 20000 in
theorem qC_told_0 (G : Nat → List am_V → am_H → am_Z) (n : Nat) (x0 : Int32) (h : am_H) : am_run 0 (fun _ => 0) cC_told G (n + 1) 0 [some (vi x0)] h =
  some (h, some (x0 + 100000)) := rfl
set_option maxRecDepth 20000 in
theorem qC_isOneOf_0 (G : Nat → List am_V → am_H → am_Z) (n : Nat) (x0 : Int32) (x1 : Int32) (h : am_H) : am_run 0 (fun _ => 0) cC_isOneOf G (n + 1) 0 [some (vi x0), some (vi x1)] h =
  if x0 < 0 then
    (some (h, some 0))
  else if x0 < x1 then
    (some (h, some 1))
  else some (h, some 0) := rfl
set_option maxRecDepth 20000 in
theorem qC_isTickToTell_0 (G : Nat → List am_V → am_H → am_Z) (n : Nat) (x0 : Int32) (h : am_H) : am_run 0 (fun _ => 0) cC_isTickToTell G (n + 1) 0 [some (vi x0)] h =
  if x0 < (-9999) then
    (some (h, some 0))
  else if 9999 < x0 then
    (some (h, some 0))
  else some (h, some 1) := rfl
set_option maxRecDepth 20000 in
theorem qC_isRoom_0 (G : Nat → List am_V → am_H → am_Z) (n : Nat) (x1 : Int32) (h : am_H) : am_run 0 (fun _ => 0) cC_isRoom G (n + 1) 0 [some (vr 6 0), some (vi x1)] h =
  am_r1 (G 89 [vi x1, vi (h (Int32.toNatClampNeg (h 0 2)) 14)] h) fun h1 v2 =>
  if v2 &&& 1 = v2 then some (h1, some v2) else none := rfl
set_option maxRecDepth 20000 in
theorem qC_isDoor_0 (G : Nat → List am_V → am_H → am_Z) (n : Nat) (x1 : Int32) (h : am_H) : am_run 0 (fun _ => 0) cC_isDoor G (n + 1) 0 [some (vr 6 0), some (vi x1)] h =
  am_r1 (G 89 [vi x1, vi (h (Int32.toNatClampNeg (h 0 2)) 15)] h) fun h1 v2 =>
  if v2 &&& 1 = v2 then some (h1, some v2) else none := rfl
set_option maxRecDepth 20000 in
theorem qC_isPerson_0 (G : Nat → List am_V → am_H → am_Z) (n : Nat) (x1 : Int32) (h : am_H) : am_run 0 (fun _ => 0) cC_isPerson G (n + 1) 0 [some (vr 6 0), some (vi x1)] h =
  am_r1 (G 89 [vi x1, vi (h (Int32.toNatClampNeg (h 0 2)) 16)] h) fun h1 v2 =>
  if v2 &&& 1 = v2 then some (h1, some v2) else none := rfl
set_option maxRecDepth 20000 in
theorem qC_isThing_0 (G : Nat → List am_V → am_H → am_Z) (n : Nat) (x1 : Int32) (h : am_H) : am_run 0 (fun _ => 0) cC_isThing G (n + 1) 0 [some (vr 6 0), some (vi x1)] h =
  am_r1 (G 89 [vi x1, vi (h (Int32.toNatClampNeg (h 0 2)) 17)] h) fun h1 v2 =>
  if v2 &&& 1 = v2 then some (h1, some v2) else none := rfl
set_option maxRecDepth 20000 in
theorem qJ_bitCount_0 (G : Nat → List am_V → am_H → am_Z) (n : Nat) (x0 : Int32) (h : am_H) : am_run 0 (fun _ => 0) cJ_bitCount G (n + 1) 0 [some (vi x0)] h =
  some (h, some ((((((((x0 - ((am_ush x0 1) &&& 1431655765)) &&& 858993459) + ((am_ush (x0 - ((am_ush x0 1) &&& 1431655765)) 2) &&& 858993459)) + (am_ush (((x0 - ((am_ush x0 1) &&& 1431655765)) &&& 858993459) + ((am_ush (x0 - ((am_ush x0 1) &&& 1431655765)) 2) &&& 858993459)) 4)) &&& 252645135) + (am_ush (((((x0 - ((am_ush x0 1) &&& 1431655765)) &&& 858993459) + ((am_ush (x0 - ((am_ush x0 1) &&& 1431655765)) 2) &&& 858993459)) + (am_ush (((x0 - ((am_ush x0 1) &&& 1431655765)) &&& 858993459) + ((am_ush (x0 - ((am_ush x0 1) &&& 1431655765)) 2) &&& 858993459)) 4)) &&& 252645135) 8)) + (am_ush ((((((x0 - ((am_ush x0 1) &&& 1431655765)) &&& 858993459) + ((am_ush (x0 - ((am_ush x0 1) &&& 1431655765)) 2) &&& 858993459)) + (am_ush (((x0 - ((am_ush x0 1) &&& 1431655765)) &&& 858993459) + ((am_ush (x0 - ((am_ush x0 1) &&& 1431655765)) 2) &&& 858993459)) 4)) &&& 252645135) + (am_ush (((((x0 - ((am_ush x0 1) &&& 1431655765)) &&& 858993459) + ((am_ush (x0 - ((am_ush x0 1) &&& 1431655765)) 2) &&& 858993459)) + (am_ush (((x0 - ((am_ush x0 1) &&& 1431655765)) &&& 858993459) + ((am_ush (x0 - ((am_ush x0 1) &&& 1431655765)) 2) &&& 858993459)) 4)) &&& 252645135) 8)) 16)) &&& 63)) := rfl
set_option maxRecDepth 20000 in
theorem qJ_floorMod_0 (G : Nat → List am_V → am_H → am_Z) (n : Nat) (x0 : Int32) (x1 : Int32) (h : am_H) : am_run 0 (fun _ => 0) cJ_floorMod G (n + 1) 0 [some (vi x0), some (vi x1), none] h =
  if x1 = 0 then none else
  if (x0 ^^^ x1) < 0 then
    (if (am_rem x0 x1) = 0 then
      (some (h, some (am_rem x0 x1)))
    else some (h, some ((am_rem x0 x1) + x1)))
  else some (h, some (am_rem x0 x1)) := rfl
set_option maxRecDepth 20000 in
theorem qJ_max_0 (G : Nat → List am_V → am_H → am_Z) (n : Nat) (x0 : Int32) (x1 : Int32) (h : am_H) : am_run 0 (fun _ => 0) cJ_max G (n + 1) 0 [some (vi x0), some (vi x1)] h =
  if x0 < x1 then
    (some (h, some x1))
  else some (h, some x0) := rfl
set_option maxRecDepth 20000 in
theorem qJ_min_0 (G : Nat → List am_V → am_H → am_Z) (n : Nat) (x0 : Int32) (x1 : Int32) (h : am_H) : am_run 0 (fun _ => 0) cJ_min G (n + 1) 0 [some (vi x0), some (vi x1)] h =
  if x1 < x0 then
    (some (h, some x1))
  else some (h, some x0) := rfl
set_option maxRecDepth 20000 in
theorem qJ_fill6_0 (G : Nat → List am_V → am_H → am_Z) (n : Nat) (a0 : Nat) (x1 : Int32) (h : am_H) : am_run 0 (fun _ => 0) cJ_fill G (n + 1) 0 [some (vr 106 a0), some (vi x1), none, none] h =
  am_run 0 (fun _ => 0) cJ_fill G n 6 [some (vr 106 a0), some (vi x1), some (vi 0), some (vi (nI 6))] h := rfl
set_option maxRecDepth 20000 in
theorem qJ_fill6_6 (G : Nat → List am_V → am_H → am_Z) (n : Nat) (a0 : Nat) (x1 : Int32) (x2 : Int32) (x3 : Int32) (h : am_H) : am_run 0 (fun _ => 0) cJ_fill G (n + 1) 6 [some (vr 106 a0), some (vi x1), some (vi x2), some (vi x3)] h =
  if x2 < x3 then
    (am_b 6 x2 fun j1 =>
    am_run 0 (fun _ => 0) cJ_fill G n 6 [some (vr 106 a0), some (vi x1), some (vi (x2 + 1)), some (vi x3)] (am_up h a0 j1 x1))
  else some (h, none) := rfl
set_option maxRecDepth 20000 in
theorem qJ_fill384_0 (G : Nat → List am_V → am_H → am_Z) (n : Nat) (a0 : Nat) (x1 : Int32) (h : am_H) : am_run 0 (fun _ => 0) cJ_fill G (n + 1) 0 [some (vr 484 a0), some (vi x1), none, none] h =
  am_run 0 (fun _ => 0) cJ_fill G n 6 [some (vr 484 a0), some (vi x1), some (vi 0), some (vi (nI 384))] h := rfl
set_option maxRecDepth 20000 in
theorem qJ_fill384_6 (G : Nat → List am_V → am_H → am_Z) (n : Nat) (a0 : Nat) (x1 : Int32) (x2 : Int32) (x3 : Int32) (h : am_H) : am_run 0 (fun _ => 0) cJ_fill G (n + 1) 6 [some (vr 484 a0), some (vi x1), some (vi x2), some (vi x3)] h =
  if x2 < x3 then
    (am_b 384 x2 fun j1 =>
    am_run 0 (fun _ => 0) cJ_fill G n 6 [some (vr 484 a0), some (vi x1), some (vi (x2 + 1)), some (vi x3)] (am_up h a0 j1 x1))
  else some (h, none) := rfl
end
section
/-! EQUATIONS of the reference's methods, by program -/
set_option maxRecDepth 20000 in
theorem qM_in_0 (G : Nat → List am_V → am_H → am_Z) (n : Nat) (y0 : Int64) (y2 : Int64) (y4 : Int64) (h : am_H) : am_run 0 (fun _ => 0) cM_in G (n + 1) 0 [some (vl y0), none, some (vl y2), none, some (vl y4), none] h =
  if (lg_cmp y0 y2) < 0 then
    (some (h, some 0))
  else if 0 < (lg_cmp y0 y4) then
    (some (h, some 0))
  else some (h, some 1) := rfl
set_option maxRecDepth 20000 in
theorem qM_has_0 (G : Nat → List am_V → am_H → am_Z) (n : Nat) (x0 : Int32) (x1 : Int32) (h : am_H) : am_run 0 (fun _ => 0) cM_has G (n + 1) 0 [some (vi x0), some (vi x1)] h =
  if ((x0 >>> (x1 &&& 31)) &&& 1) = 1 then
    (some (h, some 1))
  else some (h, some 0) := rfl
set_option maxRecDepth 20000 in
theorem qM_noHouse_0 (G : Nat → List am_V → am_H → am_Z) (n : Nat) (x1 : Int32) (h : am_H) : am_run 0 (fun _ => 0) cM_noHouse G (n + 1) 0 [some (vr 7 82), some (vi x1)] h =
  am_b 2 x1 fun j1 =>
  am_b 2 x1 fun j2 =>
  am_b 2 x1 fun j3 =>
  am_b 2 x1 fun j4 =>
  am_b 2 x1 fun j5 =>
  some (am_up (am_up (am_up (am_up (am_up h 84 j1 0) 88 j2 0) 92 j3 0) 95 j4 0) 99 j5 1, none) := rfl
set_option maxRecDepth 20000 in
theorem qM_addRoom_0 (G : Nat → List am_V → am_H → am_Z) (n : Nat) (x1 : Int32) (x2 : Int32) (x3 : Int32) (x4 : Int32) (h : am_H) : am_run 0 (fun _ => 0) cM_addRoom G (n + 1) 0 [some (vr 7 82), some (vi x1), some (vi x2), some (vi x3), some (vi x4)] h =
  am_b 2 x1 fun j1 =>
  am_b 12 ((6 * x1) + (h 84 j1)) fun j2 =>
  am_b 2 x1 fun j3 =>
  am_b 12 ((6 * x1) + (h 84 j3)) fun j4 =>
  am_b 2 x1 fun j5 =>
  am_b 12 ((6 * x1) + (h 84 j5)) fun j6 =>
  am_b 2 x1 fun j7 =>
  am_b 2 x1 fun j8 =>
  some (am_up (am_up (am_up (am_up h 85 j2 x2) 86 j4 x3) 87 j6 x4) 84 j8 ((h 84 j7) + 1), none) := rfl
set_option maxRecDepth 20000 in
theorem qM_addDoor_0 (G : Nat → List am_V → am_H → am_Z) (n : Nat) (x1 : Int32) (x2 : Int32) (x3 : Int32) (x4 : Int32) (x5 : Int32) (h : am_H) : am_run 0 (fun _ => 0) cM_addDoor G (n + 1) 0 [some (vr 7 82), some (vi x1), some (vi x2), some (vi x3), some (vi x4), some (vi x5)] h =
  am_b 2 x1 fun j1 =>
  am_b 16 ((8 * x1) + (h 88 j1)) fun j2 =>
  am_b 2 x1 fun j3 =>
  am_b 16 ((8 * x1) + (h 88 j3)) fun j4 =>
  am_b 2 x1 fun j5 =>
  if x4 = 0 then
    (am_b 16 ((8 * x1) + (h 88 j5)) fun j6 =>
    am_b 2 x1 fun j7 =>
    am_b 2 x1 fun j8 =>
    some (am_up (am_up (am_up (am_up h 89 j2 x2) 90 j4 x3) 91 j6 x5) 88 j8 ((h 88 j7) + 1), none))
  else am_b 16 ((8 * x1) + (h 88 j5)) fun j9 =>
  am_b 2 x1 fun j10 =>
  am_b 2 x1 fun j11 =>
  some (am_up (am_up (am_up (am_up h 89 j2 x2) 90 j4 x3) 91 j9 (-x5)) 88 j11 ((h 88 j10) + 1), none) := rfl
set_option maxRecDepth 20000 in
theorem qM_write_0 (G : Nat → List am_V → am_H → am_Z) (n : Nat) (x1 : Int32) (h : am_H) : am_run 0 (fun _ => 0) cM_write G (n + 1) 0 [some (vr 7 82), some (vi x1)] h =
  am_r1 (G 95 [vl (Int32.toInt64 x1), vl (Int32.toInt64 32), vl (Int32.toInt64 126)] h) fun h1 v2 =>
  if v2 = 0 then
    (some (h1, some (-1)))
  else if (h1 82 0) = 200 then
    (some (h1, some (-3)))
  else am_b 200 (h1 82 0) fun j3 =>
  some (am_up (am_up h1 83 j3 x1) 82 0 ((h1 82 0) + 1), some ((h1 82 0) + 1)) := rfl
set_option maxRecDepth 20000 in
theorem qM_wipe_0 (G : Nat → List am_V → am_H → am_Z) (n : Nat)  (h : am_H) : am_run 0 (fun _ => 0) cM_wipe G (n + 1) 0 [some (vr 7 82), none] h =
  some (am_up h 82 0 0, some (h 82 0)) := rfl
set_option maxRecDepth 20000 in
theorem qM_letterAt_0 (G : Nat → List am_V → am_H → am_Z) (n : Nat) (x1 : Int32) (h : am_H) : am_run 0 (fun _ => 0) cM_letterAt G (n + 1) 0 [some (vr 7 82), some (vi x1)] h =
  if x1 < (h 82 0) then
    (am_b 200 x1 fun j1 =>
    some (h, some (h 83 j1)))
  else some (h, some 0) := rfl
set_option maxRecDepth 20000 in
theorem qM_figures_0 (G : Nat → List am_V → am_H → am_Z) (n : Nat) (x1 : Int32) (h : am_H) : am_run 0 (fun _ => 0) cM_figures G (n + 1) 0 [some (vr 7 82), some (vi x1), none, none, none] h =
  am_run 0 (fun _ => 0) cM_figures G n 3 [some (vr 7 82), some (vi x1), some (vi 0), none, none] h := rfl
set_option maxRecDepth 20000 in
theorem qM_figures_3 (G : Nat → List am_V → am_H → am_Z) (n : Nat) (x1 : Int32) (x2 : Int32) (u3 : Option am_V) (u4 : Option am_V) (h : am_H) : am_run 0 (fun _ => 0) cM_figures G (n + 1) 3 [some (vr 7 82), some (vi x1), some (vi x2), u3, u4] h =
  if x2 < x1 then
    (am_run 0 (fun _ => 0) cM_figures G n 11 [some (vr 7 82), some (vi x1), some (vi x2), some (vi 0), some (vi 0)] h)
  else some (h, some 1) := rfl
set_option maxRecDepth 20000 in
theorem qM_figures_11 (G : Nat → List am_V → am_H → am_Z) (n : Nat) (x1 : Int32) (x2 : Int32) (x3 : Int32) (x4 : Int32) (h : am_H) : am_run 0 (fun _ => 0) cM_figures G (n + 1) 11 [some (vr 7 82), some (vi x1), some (vi x2), some (vi x3), some (vi x4)] h =
  am_r1 (G 102 [vr 7 82, vi (h 82 27)] h) fun h1 v2 =>
  am_r1 (G 95 [vl (Int32.toInt64 v2), vl (Int32.toInt64 48), vl (Int32.toInt64 57)] h1) fun h3 v4 =>
  if v4 = 0 then
    (am_r1 (G 95 [vl (Int32.toInt64 x3), vl (Int32.toInt64 1), vl (Int32.toInt64 2)] h3) fun h5 v6 =>
    if v6 = 0 then
      (some (h5, some 0))
    else am_r1 (G 102 [vr 7 82, vi (h5 82 27)] h5) fun h7 v8 =>
    if x2 < (x1 - 1) then
      (if v8 = 44 then
        (am_b 4 x2 fun j9 =>
        am_run 0 (fun _ => 0) cM_figures G n 3 [some (vr 7 82), some (vi x1), some (vi (x2 + 1)), some (vi x3), some (vi x4)] (am_up (am_up h7 107 j9 x4) 82 27 ((h7 82 27) + 1)))
      else some (h7, some 0))
    else if v8 = 59 then
      (am_b 4 x2 fun j10 =>
      am_run 0 (fun _ => 0) cM_figures G n 3 [some (vr 7 82), some (vi x1), some (vi (x2 + 1)), some (vi x3), some (vi x4)] (am_up (am_up h7 107 j10 x4) 82 27 ((h7 82 27) + 1)))
    else some (h7, some 0))
  else if x3 < 3 then
    (am_r1 (G 102 [vr 7 82, vi (h3 82 27)] h3) fun h11 v12 =>
    am_run 0 (fun _ => 0) cM_figures G n 11 [some (vr 7 82), some (vi x1), some (vi x2), some (vi (x3 + 1)), some (vi (((10 * x4) + v12) - 48))] (am_up h11 82 27 ((h11 82 27) + 1)))
  else am_r1 (G 95 [vl (Int32.toInt64 x3), vl (Int32.toInt64 1), vl (Int32.toInt64 2)] h3) fun h13 v14 =>
  if v14 = 0 then
    (some (h13, some 0))
  else am_r1 (G 102 [vr 7 82, vi (h13 82 27)] h13) fun h15 v16 =>
  if x2 < (x1 - 1) then
    (if v16 = 44 then
      (am_b 4 x2 fun j17 =>
      am_run 0 (fun _ => 0) cM_figures G n 3 [some (vr 7 82), some (vi x1), some (vi (x2 + 1)), some (vi x3), some (vi x4)] (am_up (am_up h15 107 j17 x4) 82 27 ((h15 82 27) + 1)))
    else some (h15, some 0))
  else if v16 = 59 then
    (am_b 4 x2 fun j18 =>
    am_run 0 (fun _ => 0) cM_figures G n 3 [some (vr 7 82), some (vi x1), some (vi (x2 + 1)), some (vi x3), some (vi x4)] (am_up (am_up h15 107 j18 x4) 82 27 ((h15 82 27) + 1)))
  else some (h15, some 0) := rfl
set_option maxRecDepth 20000 in
theorem qM_item_0 (G : Nat → List am_V → am_H → am_Z) (n : Nat)  (h : am_H) : am_run 0 (fun _ => 0) cM_item G (n + 1) 0 [some (vr 7 82), none] h =
  am_r1 (G 102 [vr 7 82, vi (h 82 27)] h) fun h1 v2 =>
  if v2 = nI 100 then
    (am_r1 (G 103 [vr 7 82, vi 4] (am_up h1 82 27 ((h1 82 27) + 1))) fun h3 v4 =>
    if v4 = 0 then
      (some (h3, some 0))
    else if (h3 88 1) = 8 then
      (some (h3, some 0))
    else if (h3 107 0) < (h3 84 1) then
      (if (h3 107 1) < (h3 84 1) then
        (if (h3 107 0) = (h3 107 1) then
          (some (h3, some 0))
        else if 1 < (h3 107 2) then
          (some (h3, some 0))
        else if 24 < (h3 107 3) then
          (some (h3, some 0))
        else am_r0 (G 99 [vr 7 82, vi 1, vi (h3 107 0), vi (h3 107 1), vi (h3 107 2), vi (h3 107 3)] h3) fun h5 =>
        some (h5, some 1))
      else some (h3, some 0))
    else some (h3, some 0))
  else if v2 = nI 112 then
    (am_r1 (G 103 [vr 7 82, vi 2] (am_up h1 82 27 ((h1 82 27) + 1))) fun h6 v7 =>
    if v7 = 0 then
      (some (h6, some 0))
    else if (h6 92 1) = 4 then
      (some (h6, some 0))
    else if (h6 107 0) < (h6 84 1) then
      (am_b 8 (4 + (h6 92 1)) fun j8 =>
      am_b 8 (4 + (h6 92 1)) fun j9 =>
      some (am_up (am_up (am_up h6 93 j8 (h6 107 0)) 94 j9 (h6 107 1)) 92 1 ((h6 92 1) + 1), some 1))
    else some (h6, some 0))
  else if v2 = nI 114 then
    (am_r1 (G 103 [vr 7 82, vi 3] (am_up h1 82 27 ((h1 82 27) + 1))) fun h10 v11 =>
    if v11 = 0 then
      (some (h10, some 0))
    else if (h10 84 1) = 6 then
      (some (h10, some 0))
    else am_r1 (G 95 [vl (Int32.toInt64 (h10 107 0)), vl (Int32.toInt64 1), vl (Int32.toInt64 4)] h10) fun h12 v13 =>
    if v13 = 0 then
      (some (h12, some 0))
    else am_r1 (G 95 [vl (Int32.toInt64 (h12 107 1)), vl (Int32.toInt64 1), vl (Int32.toInt64 4)] h12) fun h14 v15 =>
    if v15 = 0 then
      (some (h14, some 0))
    else if 23 < (h14 107 2) then
      (some (h14, some 0))
    else am_r0 (G 98 [vr 7 82, vi 1, vi (h14 107 0), vi (h14 107 1), vi (h14 107 2)] h14) fun h16 =>
    some (h16, some 1))
  else if v2 = nI 116 then
    (am_r1 (G 103 [vr 7 82, vi 3] (am_up h1 82 27 ((h1 82 27) + 1))) fun h17 v18 =>
    if v18 = 0 then
      (some (h17, some 0))
    else if (h17 95 1) = 5 then
      (some (h17, some 0))
    else if (h17 107 0) < (h17 84 1) then
      (if 3 < (h17 107 1) then
        (some (h17, some 0))
      else if (h17 107 2) < 1 then
        (some (h17, some 0))
      else am_b 10 (5 + (h17 95 1)) fun j19 =>
      am_b 10 (5 + (h17 95 1)) fun j20 =>
      am_b 10 (5 + (h17 95 1)) fun j21 =>
      some (am_up (am_up (am_up (am_up h17 96 j19 (h17 107 0)) 97 j20 (h17 107 1)) 98 j21 (h17 107 2)) 95 1 ((h17 95 1) + 1), some 1))
    else some (h17, some 0))
  else if v2 = nI 119 then
    (am_r1 (G 103 [vr 7 82, vi 1] (am_up h1 82 27 ((h1 82 27) + 1))) fun h22 v23 =>
    if v23 = 0 then
      (some (h22, some 0))
    else if 3 < (h22 107 0) then
      (some (h22, some 0))
    else some (am_up h22 99 1 (h22 107 0), some 1))
  else some (am_up h1 82 27 ((h1 82 27) + 1), some 0) := rfl
set_option maxRecDepth 20000 in
theorem qM_readAll_0 (G : Nat → List am_V → am_H → am_Z) (n : Nat)  (h : am_H) : am_run 0 (fun _ => 0) cM_readAll G (n + 1) 0 [some (vr 7 82), none] h =
  am_r0 (G 97 [vr 7 82, vi 1] h) fun h1 =>
  am_run 0 (fun _ => 0) cM_readAll G n 7 [some (vr 7 82), none] (am_up h1 82 27 0) := rfl
set_option maxRecDepth 20000 in
theorem qM_readAll_7 (G : Nat → List am_V → am_H → am_Z) (n : Nat) (u1 : Option am_V) (h : am_H) : am_run 0 (fun _ => 0) cM_readAll G (n + 1) 7 [some (vr 7 82), u1] h =
  if (h 82 27) < (h 82 0) then
    (am_r1 (G 104 [vr 7 82] h) fun h1 v2 =>
    if v2 = 0 then
      (some (h1, some (h 82 27)))
    else am_run 0 (fun _ => 0) cM_readAll G n 7 [some (vr 7 82), some (vi (h 82 27))] h1)
  else some (h, some (-4)) := rfl
set_option maxRecDepth 20000 in
theorem qM_fault_0 (G : Nat → List am_V → am_H → am_Z) (n : Nat)  (h : am_H) : am_run 0 (fun _ => 0) cM_fault G (n + 1) 0 [some (vr 7 82)] h =
  am_r1 (G 105 [vr 7 82] h) fun h1 v2 =>
  some (h1, some v2) := rfl
set_option maxRecDepth 20000 in
theorem qM_lay_0 (G : Nat → List am_V → am_H → am_Z) (n : Nat)  (h : am_H) : am_run 0 (fun _ => 0) cM_lay G (n + 1) 0 [some (vr 7 82), none] h =
  am_r1 (G 105 [vr 7 82] h) fun h1 v2 =>
  if v2 = (-4) then
    (if (h1 92 1) = 0 then
      (some (h1, some (-2)))
    else am_run 0 (fun _ => 0) cM_lay G n 54 [some (vr 7 82), some (vi 0)] (am_up (am_up (am_up (am_up (am_up h1 84 0 (h1 84 1)) 88 0 (h1 88 1)) 92 0 (h1 92 1)) 95 0 (h1 95 1)) 99 0 (h1 99 1)))
  else some (h1, some (-2)) := rfl
set_option maxRecDepth 20000 in
theorem qM_lay_54 (G : Nat → List am_V → am_H → am_Z) (n : Nat) (x1 : Int32) (h : am_H) : am_run 0 (fun _ => 0) cM_lay G (n + 1) 54 [some (vr 7 82), some (vi x1)] h =
  if x1 < 6 then
    (am_b 12 (6 + x1) fun j1 =>
    am_b 12 x1 fun j2 =>
    am_b 12 (6 + x1) fun j3 =>
    am_b 12 x1 fun j4 =>
    am_b 12 (6 + x1) fun j5 =>
    am_b 12 x1 fun j6 =>
    am_run 0 (fun _ => 0) cM_lay G n 54 [some (vr 7 82), some (vi (x1 + 1))] (am_up (am_up (am_up h 85 j2 (h 85 j1)) 86 j4 (h 86 j3)) 87 j6 (h 87 j5)))
  else am_run 0 (fun _ => 0) cM_lay G n 92 [some (vr 7 82), some (vi 0)] h := rfl
set_option maxRecDepth 20000 in
theorem qM_lay_92 (G : Nat → List am_V → am_H → am_Z) (n : Nat) (x1 : Int32) (h : am_H) : am_run 0 (fun _ => 0) cM_lay G (n + 1) 92 [some (vr 7 82), some (vi x1)] h =
  if x1 < 8 then
    (am_b 16 (8 + x1) fun j1 =>
    am_b 16 x1 fun j2 =>
    am_b 16 (8 + x1) fun j3 =>
    am_b 16 x1 fun j4 =>
    am_b 16 (8 + x1) fun j5 =>
    am_b 16 x1 fun j6 =>
    am_run 0 (fun _ => 0) cM_lay G n 92 [some (vr 7 82), some (vi (x1 + 1))] (am_up (am_up (am_up h 89 j2 (h 89 j1)) 90 j4 (h 90 j3)) 91 j6 (h 91 j5)))
  else am_run 0 (fun _ => 0) cM_lay G n 130 [some (vr 7 82), some (vi 0)] h := rfl
set_option maxRecDepth 20000 in
theorem qM_lay_130 (G : Nat → List am_V → am_H → am_Z) (n : Nat) (x1 : Int32) (h : am_H) : am_run 0 (fun _ => 0) cM_lay G (n + 1) 130 [some (vr 7 82), some (vi x1)] h =
  if x1 < 4 then
    (am_b 8 (4 + x1) fun j1 =>
    am_b 8 x1 fun j2 =>
    am_b 8 (4 + x1) fun j3 =>
    am_b 8 x1 fun j4 =>
    am_run 0 (fun _ => 0) cM_lay G n 130 [some (vr 7 82), some (vi (x1 + 1))] (am_up (am_up h 93 j2 (h 93 j1)) 94 j4 (h 94 j3)))
  else am_run 0 (fun _ => 0) cM_lay G n 158 [some (vr 7 82), some (vi 0)] h := rfl
set_option maxRecDepth 20000 in
theorem qM_lay_158 (G : Nat → List am_V → am_H → am_Z) (n : Nat) (x1 : Int32) (h : am_H) : am_run 0 (fun _ => 0) cM_lay G (n + 1) 158 [some (vr 7 82), some (vi x1)] h =
  if x1 < 5 then
    (am_b 10 (5 + x1) fun j1 =>
    am_b 10 x1 fun j2 =>
    am_b 10 (5 + x1) fun j3 =>
    am_b 10 x1 fun j4 =>
    am_b 10 (5 + x1) fun j5 =>
    am_b 10 x1 fun j6 =>
    am_run 0 (fun _ => 0) cM_lay G n 158 [some (vr 7 82), some (vi (x1 + 1))] (am_up (am_up (am_up h 96 j2 (h 96 j1)) 97 j4 (h 97 j3)) 98 j6 (h 98 j5)))
  else am_r0 (G 123 [vr 7 82] (am_up (am_up (am_up h 100 0 0) 82 22 0) 82 23 0)) fun h7 =>
  some (h7, some (h7 84 0)) := rfl
set_option maxRecDepth 20000 in
theorem qM_isRoom_0 (G : Nat → List am_V → am_H → am_Z) (n : Nat) (x1 : Int32) (h : am_H) : am_run 0 (fun _ => 0) cM_isRoom G (n + 1) 0 [some (vr 7 82), some (vi x1)] h =
  am_r1 (G 95 [vl (Int32.toInt64 x1), vl (Int32.toInt64 0), vl (Int32.toInt64 ((h 84 0) - 1))] h) fun h1 v2 =>
  if v2 &&& 1 = v2 then some (h1, some v2) else none := rfl
set_option maxRecDepth 20000 in
theorem qM_isDoor_0 (G : Nat → List am_V → am_H → am_Z) (n : Nat) (x1 : Int32) (h : am_H) : am_run 0 (fun _ => 0) cM_isDoor G (n + 1) 0 [some (vr 7 82), some (vi x1)] h =
  am_r1 (G 95 [vl (Int32.toInt64 x1), vl (Int32.toInt64 0), vl (Int32.toInt64 ((h 88 0) - 1))] h) fun h1 v2 =>
  if v2 &&& 1 = v2 then some (h1, some v2) else none := rfl
set_option maxRecDepth 20000 in
theorem qM_isPerson_0 (G : Nat → List am_V → am_H → am_Z) (n : Nat) (x1 : Int32) (h : am_H) : am_run 0 (fun _ => 0) cM_isPerson G (n + 1) 0 [some (vr 7 82), some (vi x1)] h =
  am_r1 (G 95 [vl (Int32.toInt64 x1), vl (Int32.toInt64 0), vl (Int32.toInt64 ((h 92 0) - 1))] h) fun h1 v2 =>
  if v2 &&& 1 = v2 then some (h1, some v2) else none := rfl
set_option maxRecDepth 20000 in
theorem qM_isThing_0 (G : Nat → List am_V → am_H → am_Z) (n : Nat) (x1 : Int32) (h : am_H) : am_run 0 (fun _ => 0) cM_isThing G (n + 1) 0 [some (vr 7 82), some (vi x1)] h =
  am_r1 (G 95 [vl (Int32.toInt64 x1), vl (Int32.toInt64 0), vl (Int32.toInt64 ((h 95 0) - 1))] h) fun h1 v2 =>
  if v2 &&& 1 = v2 then some (h1, some v2) else none := rfl
set_option maxRecDepth 20000 in
theorem qM_hourOf_0 (G : Nat → List am_V → am_H → am_Z) (n : Nat) (x1 : Int32) (h : am_H) : am_run 0 (fun _ => 0) cM_hourOf G (n + 1) 0 [some (vr 7 82), some (vi x1)] h =
  am_b 12 x1 fun j1 =>
  am_b 12 x1 fun j2 =>
  if h 85 j2 = 0 then none else
  some (h, some ((12 * (h 86 j1)) / (h 85 j2))) := rfl
set_option maxRecDepth 20000 in
theorem qM_oldBy_0 (G : Nat → List am_V → am_H → am_Z) (n : Nat) (x1 : Int32) (x2 : Int32) (h : am_H) : am_run 0 (fun _ => 0) cM_oldBy G (n + 1) 0 [some (vr 7 82), some (vi x1), some (vi x2)] h =
  am_b 12 x1 fun j1 =>
  am_b 12 x1 fun j2 =>
  if h 86 j2 = 0 then none else
  some (h, some ((x2 * (h 85 j1)) * (12 / (h 86 j2)))) := rfl
set_option maxRecDepth 20000 in
theorem qM_goBy_0 (G : Nat → List am_V → am_H → am_Z) (n : Nat) (x1 : Int32) (x2 : Int32) (h : am_H) : am_run 0 (fun _ => 0) cM_goBy G (n + 1) 0 [some (vr 7 82), some (vi x1), some (vi x2), none] h =
  am_b 4 x1 fun j1 =>
  am_b 4 x1 fun j2 =>
  am_r1 (G 112 [vr 7 82, vi (h 108 j2)] h) fun h3 v4 =>
  am_b 4 x1 fun j5 =>
  am_b 4 x1 fun j6 =>
  am_b 4 x1 fun j7 =>
  am_run 0 (fun _ => 0) cM_goBy G n 26 [some (vr 7 82), some (vi x1), some (vi x2), some (vi 0)] (am_up (am_up h3 109 j5 ((h 109 j1) + (x2 * v4))) 110 j7 ((h3 110 j6) + x2)) := rfl
set_option maxRecDepth 20000 in
theorem qM_goBy_26 (G : Nat → List am_V → am_H → am_Z) (n : Nat) (x1 : Int32) (x2 : Int32) (x3 : Int32) (h : am_H) : am_run 0 (fun _ => 0) cM_goBy G (n + 1) 26 [some (vr 7 82), some (vi x1), some (vi x2), some (vi x3)] h =
  if x3 < (h 95 0) then
    (am_b 5 x3 fun j1 =>
    am_b 5 x3 fun j2 =>
    if (h 112 j2) = x1 then
      (am_b 5 x3 fun j3 =>
      am_run 0 (fun _ => 0) cM_goBy G n 26 [some (vr 7 82), some (vi x1), some (vi x2), some (vi (x3 + 1))] (am_up h 114 j3 ((h 114 j1) + (144 * x2))))
    else am_b 5 x3 fun j4 =>
    am_run 0 (fun _ => 0) cM_goBy G n 26 [some (vr 7 82), some (vi x1), some (vi x2), some (vi (x3 + 1))] (am_up h 114 j4 ((h 114 j1) + 0)))
  else am_b 4 x1 fun j5 =>
  am_b 4 x1 fun j6 =>
  am_b 164 (((41 * x1) + (h 115 j5)) - 1) fun j7 =>
  some (am_up h 118 j7 (h 109 j6), none) := rfl
set_option maxRecDepth 20000 in
theorem qM_isBeside_0 (G : Nat → List am_V → am_H → am_Z) (n : Nat) (x1 : Int32) (x2 : Int32) (h : am_H) : am_run 0 (fun _ => 0) cM_isBeside G (n + 1) 0 [some (vr 7 82), some (vi x1), some (vi x2)] h =
  am_b 16 x1 fun j1 =>
  if (h 89 j1) = x2 then
    (some (h, some 1))
  else am_b 16 x1 fun j2 =>
  if (h 90 j2) = x2 then
    (some (h, some 1))
  else some (h, some 0) := rfl
set_option maxRecDepth 20000 in
theorem qM_leadFrom_0 (G : Nat → List am_V → am_H → am_Z) (n : Nat) (x1 : Int32) (x2 : Int32) (h : am_H) : am_run 0 (fun _ => 0) cM_leadFrom G (n + 1) 0 [some (vr 7 82), some (vi x1), some (vi x2)] h =
  am_b 16 x1 fun j1 =>
  if (h 89 j1) = x2 then
    (am_b 16 x1 fun j2 =>
    some (h, some (h 91 j2)))
  else am_b 16 x1 fun j3 =>
  some (h, some (-(h 91 j3))) := rfl
set_option maxRecDepth 20000 in
theorem qM_beyond_0 (G : Nat → List am_V → am_H → am_Z) (n : Nat) (x1 : Int32) (x2 : Int32) (h : am_H) : am_run 0 (fun _ => 0) cM_beyond G (n + 1) 0 [some (vr 7 82), some (vi x1), some (vi x2)] h =
  am_b 16 x1 fun j1 =>
  if (h 89 j1) = x2 then
    (am_b 16 x1 fun j2 =>
    some (h, some (h 90 j2)))
  else am_b 16 x1 fun j3 =>
  some (h, some (h 89 j3)) := rfl
set_option maxRecDepth 20000 in
theorem qM_comeIn_0 (G : Nat → List am_V → am_H → am_Z) (n : Nat) (x1 : Int32) (x2 : Int32) (h : am_H) : am_run 0 (fun _ => 0) cM_comeIn G (n + 1) 0 [some (vr 7 82), some (vi x1), some (vi x2), none] h =
  am_b 4 x1 fun j1 =>
  am_b 4 x1 fun j2 =>
  am_b 164 ((41 * x1) + (h 115 j1)) fun j3 =>
  am_b 4 x1 fun j4 =>
  am_b 164 ((41 * x1) + (h 115 j1)) fun j5 =>
  am_b 4 x1 fun j6 =>
  am_b 164 ((41 * x1) + (h 115 j1)) fun j7 =>
  am_b 4 x1 fun j8 =>
  am_b 4 x1 fun j9 =>
  some (am_up (am_up (am_up (am_up (am_up h 108 j2 x2) 116 j3 x2) 117 j5 (h 109 j4)) 118 j7 (h 109 j6)) 115 j9 ((h 115 j8) + 1), none) := rfl
set_option maxRecDepth 20000 in
theorem qM_goDoor_0 (G : Nat → List am_V → am_H → am_Z) (n : Nat) (x1 : Int32) (x2 : Int32) (h : am_H) : am_run 0 (fun _ => 0) cM_goDoor G (n + 1) 0 [some (vr 7 82), some (vi x1), some (vi x2), none] h =
  am_b 4 x1 fun j1 =>
  am_r1 (G 115 [vr 7 82, vi x2, vi (h 108 j1)] h) fun h2 v3 =>
  if v3 = 0 then
    (some (h2, some 0))
  else am_r0 (G 114 [vr 7 82, vi x1, vi (h2 99 0)] h2) fun h4 =>
  am_b 4 x1 fun j5 =>
  am_b 4 x1 fun j6 =>
  am_r1 (G 116 [vr 7 82, vi x2, vi (h4 108 j5)] h4) fun h7 v8 =>
  am_b 4 x1 fun j9 =>
  am_r1 (G 117 [vr 7 82, vi x2, vi (h4 108 j5)] (am_up h7 109 j9 ((h4 109 j6) + (12 * v8)))) fun h10 v11 =>
  am_r0 (G 118 [vr 7 82, vi x1, vi v11] h10) fun h12 =>
  some (h12, some 1) := rfl
set_option maxRecDepth 20000 in
theorem qM_takeUp_0 (G : Nat → List am_V → am_H → am_Z) (n : Nat) (x1 : Int32) (x2 : Int32) (h : am_H) : am_run 0 (fun _ => 0) cM_takeUp G (n + 1) 0 [some (vr 7 82), some (vi x1), some (vi x2)] h =
  am_b 5 x2 fun j1 =>
  am_b 4 x1 fun j2 =>
  if (h 111 j1) = (h 108 j2) then
    (am_b 5 x2 fun j3 =>
    am_b 4 x1 fun j4 =>
    if (h 109 j4) < (h 113 j3) then
      (some (h, some 0))
    else am_b 5 x2 fun j5 =>
    am_b 4 x1 fun j6 =>
    am_b 4 x1 fun j7 =>
    am_b 5 x2 fun j8 =>
    am_r1 (G 113 [vr 7 82, vi (h 108 j6), vi ((h 109 j7) - (h 113 j8))] h) fun h9 v10 =>
    am_b 5 x2 fun j11 =>
    am_b 5 x2 fun j12 =>
    am_b 5 x2 fun j13 =>
    some (am_up (am_up (am_up h9 114 j11 ((h 114 j5) + v10)) 111 j12 (-4)) 112 j13 x1, some 1))
  else some (h, some 0) := rfl
set_option maxRecDepth 20000 in
theorem qM_putDown_0 (G : Nat → List am_V → am_H → am_Z) (n : Nat) (x1 : Int32) (x2 : Int32) (h : am_H) : am_run 0 (fun _ => 0) cM_putDown G (n + 1) 0 [some (vr 7 82), some (vi x1), some (vi x2)] h =
  am_b 5 x2 fun j1 =>
  if (h 112 j1) = x1 then
    (am_b 5 x2 fun j2 =>
    am_b 4 x1 fun j3 =>
    am_b 5 x2 fun j4 =>
    am_b 4 x1 fun j5 =>
    am_b 5 x2 fun j6 =>
    some (am_up (am_up (am_up h 112 j2 (-4)) 111 j4 (h 108 j3)) 113 j6 (h 109 j5), some 1))
  else some (h, some 0) := rfl
set_option maxRecDepth 20000 in
theorem qM_doAct_0 (G : Nat → List am_V → am_H → am_Z) (n : Nat) (x1 : Int32) (x2 : Int32) (x3 : Int32) (h : am_H) : am_run 0 (fun _ => 0) cM_doAct G (n + 1) 0 [some (vr 7 82), some (vi x1), some (vi x2), some (vi x3)] h =
  if x1 = nI 0 then
    (am_r0 (G 114 [vr 7 82, vi x2, vi x3] h) fun h1 =>
    some (h1, some 1))
  else if x1 = nI 1 then
    (am_r1 (G 119 [vr 7 82, vi x2, vi x3] h) fun h2 v3 =>
    if v3 &&& 1 = v3 then some (h2, some v3) else none)
  else if x1 = nI 2 then
    (am_r1 (G 120 [vr 7 82, vi x2, vi x3] h) fun h4 v5 =>
    if v5 &&& 1 = v5 then some (h4, some v5) else none)
  else am_r1 (G 121 [vr 7 82, vi x2, vi x3] h) fun h6 v7 =>
  if v7 &&& 1 = v7 then some (h6, some v7) else none := rfl
set_option maxRecDepth 20000 in
theorem qM_goAll_0 (G : Nat → List am_V → am_H → am_Z) (n : Nat)  (h : am_H) : am_run 0 (fun _ => 0) cM_goAll G (n + 1) 0 [some (vr 7 82), none] h =
  am_run 0 (fun _ => 0) cM_goAll G n 3 [some (vr 7 82), some (vi 0)] h := rfl
set_option maxRecDepth 20000 in
theorem qM_goAll_3 (G : Nat → List am_V → am_H → am_Z) (n : Nat) (x1 : Int32) (h : am_H) : am_run 0 (fun _ => 0) cM_goAll G (n + 1) 3 [some (vr 7 82), some (vi x1)] h =
  if x1 < (h 92 0) then
    (am_b 4 x1 fun j1 =>
    am_b 8 x1 fun j2 =>
    am_b 4 x1 fun j3 =>
    am_b 4 x1 fun j4 =>
    am_b 8 x1 fun j5 =>
    am_r0 (G 118 [vr 7 82, vi x1, vi (h 93 j5)] (am_up (am_up (am_up h 109 j1 0) 110 j3 (h 94 j2)) 115 j4 0)) fun h6 =>
    am_run 0 (fun _ => 0) cM_goAll G n 3 [some (vr 7 82), some (vi (x1 + 1))] h6)
  else am_run 0 (fun _ => 0) cM_goAll G n 39 [some (vr 7 82), some (vi 0)] h := rfl
set_option maxRecDepth 20000 in
theorem qM_goAll_39 (G : Nat → List am_V → am_H → am_Z) (n : Nat) (x1 : Int32) (h : am_H) : am_run 0 (fun _ => 0) cM_goAll G (n + 1) 39 [some (vr 7 82), some (vi x1)] h =
  if x1 < (h 95 0) then
    (am_b 10 x1 fun j1 =>
    am_b 5 x1 fun j2 =>
    am_b 5 x1 fun j3 =>
    am_b 5 x1 fun j4 =>
    am_b 5 x1 fun j5 =>
    am_run 0 (fun _ => 0) cM_goAll G n 39 [some (vr 7 82), some (vi (x1 + 1))] (am_up (am_up (am_up (am_up h 111 j2 (h 96 j1)) 112 j3 (-4)) 113 j4 0) 114 j5 0))
  else am_run 0 (fun _ => 0) cM_goAll G n 73 [some (vr 7 82), some (vi 0)] h := rfl
set_option maxRecDepth 20000 in
theorem qM_goAll_73 (G : Nat → List am_V → am_H → am_Z) (n : Nat) (x1 : Int32) (h : am_H) : am_run 0 (fun _ => 0) cM_goAll G (n + 1) 73 [some (vr 7 82), some (vi x1)] h =
  if x1 < (h 100 0) then
    (am_b 120 x1 fun j1 =>
    am_b 120 x1 fun j2 =>
    am_b 120 x1 fun j3 =>
    am_r1 (G 122 [vr 7 82, vi (h 101 j1), vi (h 102 j2), vi (h 103 j3)] h) fun h4 v5 =>
    am_run 0 (fun _ => 0) cM_goAll G n 73 [some (vr 7 82), some (vi (x1 + 1))] h4)
  else some (h, none) := rfl
set_option maxRecDepth 20000 in
theorem qM_common_0 (G : Nat → List am_V → am_H → am_Z) (n : Nat) (x0 : Int32) (x1 : Int32) (h : am_H) : am_run 0 (fun _ => 0) cM_common G (n + 1) 0 [some (vi x0), some (vi x1), none, none, none] h =
  am_run 0 (fun _ => 0) cM_common G n 5 [some (vi x0), some (vi x1), some (vi x0), some (vi x1), none] h := rfl
set_option maxRecDepth 20000 in
theorem qM_common_5 (G : Nat → List am_V → am_H → am_Z) (n : Nat) (x0 : Int32) (x1 : Int32) (x2 : Int32) (x3 : Int32) (u4 : Option am_V) (h : am_H) : am_run 0 (fun _ => 0) cM_common G (n + 1) 5 [some (vi x0), some (vi x1), some (vi x2), some (vi x3), u4] h =
  if x3 = 0 then
    (some (h, some x2))
  else if x3 = 0 then none else
  am_run 0 (fun _ => 0) cM_common G n 5 [some (vi x0), some (vi x1), some (vi x3), some (vi (am_rem x2 x3)), some (vi (am_rem x2 x3))] h := rfl
set_option maxRecDepth 20000 in
theorem qM_room_0 (G : Nat → List am_V → am_H → am_Z) (n : Nat) (x1 : Int32) (x2 : Int32) (h : am_H) : am_run 0 (fun _ => 0) cM_room G (n + 1) 0 [some (vr 7 82), some (vi x1), some (vi x2)] h =
  am_r1 (G 108 [vr 7 82, vi x1] h) fun h1 v2 =>
  if v2 = 0 then
    (some (h1, some (-1)))
  else am_r1 (G 95 [vl (Int32.toInt64 x2), vl (Int32.toInt64 0), vl (Int32.toInt64 3)] h1) fun h3 v4 =>
  if v4 = 0 then
    (some (h3, some (-1)))
  else if x2 = 0 then
    (am_b 12 x1 fun j5 =>
    some (h3, some (h3 85 j5)))
  else if x2 = 1 then
    (am_b 12 x1 fun j6 =>
    some (h3, some (h3 86 j6)))
  else if x2 = 2 then
    (am_b 12 x1 fun j7 =>
    some (h3, some (h3 87 j7)))
  else am_r1 (G 112 [vr 7 82, vi x1] h3) fun h8 v9 =>
  some (h8, some v9) := rfl
set_option maxRecDepth 20000 in
theorem qM_modulo_0 (G : Nat → List am_V → am_H → am_Z) (n : Nat) (x0 : Int32) (x1 : Int32) (h : am_H) : am_run 0 (fun _ => 0) cM_modulo G (n + 1) 0 [some (vi x0), some (vi x1)] h =
  if x1 = 0 then none else
  if x1 = 0 then none else
  some (h, some (am_rem ((am_rem x0 x1) + x1) x1)) := rfl
set_option maxRecDepth 20000 in
theorem qM_clock_0 (G : Nat → List am_V → am_H → am_Z) (n : Nat) (x1 : Int32) (x2 : Int32) (x3 : Int32) (h : am_H) : am_run 0 (fun _ => 0) cM_clock G (n + 1) 0 [some (vr 7 82), some (vi x1), some (vi x2), some (vi x3), none, none, none] h =
  am_r1 (G 108 [vr 7 82, vi x1] h) fun h1 v2 =>
  if v2 = 0 then
    (some (h1, some (-1)))
  else am_r1 (G 95 [vl (Int32.toInt64 x2), vl (Int32.toInt64 (-9999)), vl (Int32.toInt64 9999)] h1) fun h3 v4 =>
  if v4 = 0 then
    (some (h3, some (-1)))
  else am_r1 (G 95 [vl (Int32.toInt64 x3), vl (Int32.toInt64 0), vl (Int32.toInt64 1)] h3) fun h5 v6 =>
  if v6 = 0 then
    (some (h5, some (-1)))
  else am_b 12 x1 fun j7 =>
  am_b 12 x1 fun j8 =>
  am_b 12 x1 fun j9 =>
  am_r1 (G 126 [vi (((h5 87 j8) * (12 * (h5 86 j7))) + (x2 * (h5 85 j9))), vi (24 * (12 * (h5 86 j7)))] h5) fun h10 v11 =>
  am_r1 (G 124 [vi v11, vi (12 * (h5 86 j7))] h10) fun h12 v13 =>
  if x3 = 0 then
    (if v13 = 0 then none else
    some (h12, some (v11 / v13)))
  else if v13 = 0 then none else
  some (h12, some ((12 * (h5 86 j7)) / v13)) := rfl
set_option maxRecDepth 20000 in
theorem qM_door_0 (G : Nat → List am_V → am_H → am_Z) (n : Nat) (x1 : Int32) (x2 : Int32) (h : am_H) : am_run 0 (fun _ => 0) cM_door G (n + 1) 0 [some (vr 7 82), some (vi x1), some (vi x2)] h =
  am_r1 (G 109 [vr 7 82, vi x1] h) fun h1 v2 =>
  if v2 = 0 then
    (some (h1, some (-1)))
  else am_r1 (G 95 [vl (Int32.toInt64 x2), vl (Int32.toInt64 0), vl (Int32.toInt64 2)] h1) fun h3 v4 =>
  if v4 = 0 then
    (some (h3, some (-1)))
  else if x2 = 0 then
    (am_b 16 x1 fun j5 =>
    some (h3, some (h3 89 j5)))
  else if x2 = 1 then
    (am_b 16 x1 fun j6 =>
    some (h3, some (h3 90 j6)))
  else am_b 16 x1 fun j7 =>
  some (h3, some ((h3 91 j7) + 24)) := rfl
set_option maxRecDepth 20000 in
theorem qM_thingsOf_0 (G : Nat → List am_V → am_H → am_Z) (n : Nat) (x1 : Int32) (h : am_H) : am_run 0 (fun _ => 0) cM_thingsOf G (n + 1) 0 [some (vr 7 82), some (vi x1), none, none] h =
  am_run 0 (fun _ => 0) cM_thingsOf G n 5 [some (vr 7 82), some (vi x1), some (vi 0), some (vi 0)] h := rfl
set_option maxRecDepth 20000 in
theorem qM_thingsOf_5 (G : Nat → List am_V → am_H → am_Z) (n : Nat) (x1 : Int32) (x2 : Int32) (x3 : Int32) (h : am_H) : am_run 0 (fun _ => 0) cM_thingsOf G (n + 1) 5 [some (vr 7 82), some (vi x1), some (vi x2), some (vi x3)] h =
  if x3 < (h 95 0) then
    (am_b 5 x3 fun j1 =>
    if (h 112 j1) = x1 then
      (am_run 0 (fun _ => 0) cM_thingsOf G n 5 [some (vr 7 82), some (vi x1), some (vi (x2 ||| ((1 : Int32) <<< (x3 &&& 31)))), some (vi (x3 + 1))] h)
    else am_run 0 (fun _ => 0) cM_thingsOf G n 5 [some (vr 7 82), some (vi x1), some (vi (x2 ||| 0)), some (vi (x3 + 1))] h)
  else some (h, some x2) := rfl
set_option maxRecDepth 20000 in
theorem qM_person_0 (G : Nat → List am_V → am_H → am_Z) (n : Nat) (x1 : Int32) (x2 : Int32) (h : am_H) : am_run 0 (fun _ => 0) cM_person G (n + 1) 0 [some (vr 7 82), some (vi x1), some (vi x2)] h =
  am_r1 (G 110 [vr 7 82, vi x1] h) fun h1 v2 =>
  if v2 = 0 then
    (some (h1, some (-1)))
  else am_r1 (G 95 [vl (Int32.toInt64 x2), vl (Int32.toInt64 0), vl (Int32.toInt64 4)] h1) fun h3 v4 =>
  if v4 = 0 then
    (some (h3, some (-1)))
  else if x2 = nI 0 then
    (am_b 4 x1 fun j5 =>
    some (h3, some (h3 108 j5)))
  else if x2 = nI 1 then
    (am_b 4 x1 fun j6 =>
    some (h3, some ((h3 109 j6) + 100000)))
  else if x2 = nI 2 then
    (am_b 4 x1 fun j7 =>
    some (h3, some (h3 110 j7)))
  else if x2 = nI 3 then
    (am_r1 (G 129 [vr 7 82, vi x1] h3) fun h8 v9 =>
    some (h8, some v9))
  else am_b 4 x1 fun j10 =>
  some (h3, some (h3 115 j10)) := rfl
set_option maxRecDepth 20000 in
theorem qM_thing_0 (G : Nat → List am_V → am_H → am_Z) (n : Nat) (x1 : Int32) (x2 : Int32) (h : am_H) : am_run 0 (fun _ => 0) cM_thing G (n + 1) 0 [some (vr 7 82), some (vi x1), some (vi x2)] h =
  am_r1 (G 111 [vr 7 82, vi x1] h) fun h1 v2 =>
  if v2 = 0 then
    (some (h1, some (-1)))
  else am_r1 (G 95 [vl (Int32.toInt64 x2), vl (Int32.toInt64 0), vl (Int32.toInt64 5)] h1) fun h3 v4 =>
  if v4 = 0 then
    (some (h3, some (-1)))
  else if x2 = nI 0 then
    (am_b 10 x1 fun j5 =>
    some (h3, some (h3 97 j5)))
  else if x2 = nI 1 then
    (am_b 10 x1 fun j6 =>
    some (h3, some (h3 98 j6)))
  else if x2 = nI 2 then
    (am_b 5 x1 fun j7 =>
    some (h3, some (h3 111 j7)))
  else if x2 = nI 3 then
    (am_b 5 x1 fun j8 =>
    some (h3, some (h3 112 j8)))
  else if x2 = nI 4 then
    (am_b 5 x1 fun j9 =>
    if (h3 111 j9) < 0 then
      (some (h3, some (-4)))
    else am_b 5 x1 fun j10 =>
    some (h3, some ((h3 113 j10) + 100000)))
  else am_b 5 x1 fun j11 =>
  some (h3, some ((h3 114 j11) / 144)) := rfl
set_option maxRecDepth 20000 in
theorem qM_worthOf_0 (G : Nat → List am_V → am_H → am_Z) (n : Nat) (x1 : Int32) (x2 : Int32) (h : am_H) : am_run 0 (fun _ => 0) cM_worthOf G (n + 1) 0 [some (vr 7 82), some (vi x1), some (vi x2), none] h =
  am_b 10 x1 fun j1 =>
  if (h 97 j1) = nI 0 then
    (am_b 10 x1 fun j2 =>
    some (h, some (h 98 j2)))
  else if (h 97 j1) = nI 1 then
    (am_b 10 x1 fun j3 =>
    if (x2 / 144) < (h 98 j3) then
      (am_b 10 x1 fun j4 =>
      some (h, some ((h 98 j4) - (x2 / 144))))
    else some (h, some 0))
  else if (h 97 j1) = nI 2 then
    (am_b 10 x1 fun j5 =>
    if (x2 / 144) < (h 98 j5) then
      (some (h, some 0))
    else some (h, some 1))
  else am_b 10 x1 fun j6 =>
  if (x2 / 144) < (h 98 j6) then
    (some (h, some 1))
  else some (h, some 0) := rfl
set_option maxRecDepth 20000 in
theorem qM_worth_0 (G : Nat → List am_V → am_H → am_Z) (n : Nat) (x1 : Int32) (x2 : Int32) (h : am_H) : am_run 0 (fun _ => 0) cM_worth G (n + 1) 0 [some (vr 7 82), some (vi x1), some (vi x2)] h =
  am_r1 (G 111 [vr 7 82, vi x1] h) fun h1 v2 =>
  if v2 = 0 then
    (some (h1, some (-1)))
  else am_r1 (G 95 [vl (Int32.toInt64 x2), vl (Int32.toInt64 (-9999)), vl (Int32.toInt64 9999)] h1) fun h3 v4 =>
  if v4 = 0 then
    (some (h3, some (-1)))
  else am_b 5 x1 fun j5 =>
  if (h3 111 j5) < 0 then
    (some (h3, some (-2)))
  else am_b 5 x1 fun j6 =>
  if x2 < (h3 113 j6) then
    (some (h3, some (-2)))
  else am_b 5 x1 fun j7 =>
  am_b 5 x1 fun j8 =>
  am_b 5 x1 fun j9 =>
  am_r1 (G 113 [vr 7 82, vi (h3 111 j8), vi (x2 - (h3 113 j9))] h3) fun h10 v11 =>
  am_r1 (G 132 [vr 7 82, vi x1, vi ((h3 114 j7) + v11)] h10) fun h12 v13 =>
  some (h12, some v13) := rfl
set_option maxRecDepth 20000 in
theorem qM_note_0 (G : Nat → List am_V → am_H → am_Z) (n : Nat) (x1 : Int32) (x2 : Int32) (x3 : Int32) (h : am_H) : am_run 0 (fun _ => 0) cM_note G (n + 1) 0 [some (vr 7 82), some (vi x1), some (vi x2), some (vi x3)] h =
  am_b 120 (h 100 0) fun j1 =>
  am_b 120 (h 100 0) fun j2 =>
  am_b 120 (h 100 0) fun j3 =>
  some (am_up (am_up (am_up (am_up h 101 j1 x1) 102 j2 x2) 103 j3 x3) 100 0 ((h 100 0) + 1), none) := rfl
set_option maxRecDepth 20000 in
theorem qM_bits_0 (G : Nat → List am_V → am_H → am_Z) (n : Nat) (x0 : Int32) (h : am_H) : am_run 0 (fun _ => 0) cM_bits G (n + 1) 0 [some (vi x0), none, none] h =
  am_run 0 (fun _ => 0) cM_bits G n 5 [some (vi x0), some (vi 0), some (vi x0)] h := rfl
set_option maxRecDepth 20000 in
theorem qM_bits_5 (G : Nat → List am_V → am_H → am_Z) (n : Nat) (x0 : Int32) (x1 : Int32) (x2 : Int32) (h : am_H) : am_run 0 (fun _ => 0) cM_bits G (n + 1) 5 [some (vi x0), some (vi x1), some (vi x2)] h =
  if x2 = 0 then
    (some (h, some x1))
  else am_run 0 (fun _ => 0) cM_bits G n 5 [some (vi x0), some (vi (x1 + 1)), some (vi (x2 &&& (x2 - 1)))] h := rfl
set_option maxRecDepth 20000 in
theorem qM_stay_0 (G : Nat → List am_V → am_H → am_Z) (n : Nat) (x1 : Int32) (x2 : Int32) (h : am_H) : am_run 0 (fun _ => 0) cM_stay G (n + 1) 0 [some (vr 7 82), some (vi x1), some (vi x2)] h =
  am_r1 (G 110 [vr 7 82, vi x1] h) fun h1 v2 =>
  if v2 = 0 then
    (some (h1, some (-1)))
  else am_r1 (G 95 [vl (Int32.toInt64 x2), vl (Int32.toInt64 1), vl (Int32.toInt64 24)] h1) fun h3 v4 =>
  if v4 = 0 then
    (some (h3, some (-1)))
  else if (h3 100 0) = 40 then
    (some (h3, some (-3)))
  else am_r0 (G 134 [vr 7 82, vi 0, vi x1, vi x2] h3) fun h5 =>
  am_r1 (G 122 [vr 7 82, vi 0, vi x1, vi x2] h5) fun h6 v7 =>
  am_b 4 x1 fun j8 =>
  some (h6, some ((h6 109 j8) + 100000)) := rfl
set_option maxRecDepth 20000 in
theorem qM_go_0 (G : Nat → List am_V → am_H → am_Z) (n : Nat) (x1 : Int32) (x2 : Int32) (h : am_H) : am_run 0 (fun _ => 0) cM_go G (n + 1) 0 [some (vr 7 82), some (vi x1), some (vi x2)] h =
  am_r1 (G 110 [vr 7 82, vi x1] h) fun h1 v2 =>
  if v2 = 0 then
    (some (h1, some (-1)))
  else am_r1 (G 109 [vr 7 82, vi x2] h1) fun h3 v4 =>
  if v4 = 0 then
    (some (h3, some (-1)))
  else am_b 4 x1 fun j5 =>
  am_r1 (G 115 [vr 7 82, vi x2, vi (h3 108 j5)] h3) fun h6 v7 =>
  if v7 = 0 then
    (some (h6, some (-2)))
  else if (h6 100 0) = 40 then
    (some (h6, some (-3)))
  else am_r0 (G 134 [vr 7 82, vi 1, vi x1, vi x2] h6) fun h8 =>
  am_r1 (G 122 [vr 7 82, vi 1, vi x1, vi x2] h8) fun h9 v10 =>
  am_b 4 x1 fun j11 =>
  some (h9, some ((h9 109 j11) + 100000)) := rfl
set_option maxRecDepth 20000 in
theorem qM_take_0 (G : Nat → List am_V → am_H → am_Z) (n : Nat) (x1 : Int32) (x2 : Int32) (h : am_H) : am_run 0 (fun _ => 0) cM_take G (n + 1) 0 [some (vr 7 82), some (vi x1), some (vi x2)] h =
  am_r1 (G 110 [vr 7 82, vi x1] h) fun h1 v2 =>
  if v2 = 0 then
    (some (h1, some (-1)))
  else am_r1 (G 111 [vr 7 82, vi x2] h1) fun h3 v4 =>
  if v4 = 0 then
    (some (h3, some (-1)))
  else am_b 5 x2 fun j5 =>
  am_b 4 x1 fun j6 =>
  if (h3 111 j5) = (h3 108 j6) then
    (am_b 5 x2 fun j7 =>
    am_b 4 x1 fun j8 =>
    if (h3 109 j8) < (h3 113 j7) then
      (some (h3, some (-2)))
    else if (h3 100 0) = 40 then
      (some (h3, some (-3)))
    else am_r0 (G 134 [vr 7 82, vi 2, vi x1, vi x2] h3) fun h9 =>
    am_r1 (G 122 [vr 7 82, vi 2, vi x1, vi x2] h9) fun h10 v11 =>
    am_r1 (G 129 [vr 7 82, vi x1] h10) fun h12 v13 =>
    am_r1 (G 135 [vi v13] h12) fun h14 v15 =>
    some (h14, some v15))
  else some (h3, some (-2)) := rfl
set_option maxRecDepth 20000 in
theorem qM_put_0 (G : Nat → List am_V → am_H → am_Z) (n : Nat) (x1 : Int32) (x2 : Int32) (h : am_H) : am_run 0 (fun _ => 0) cM_put G (n + 1) 0 [some (vr 7 82), some (vi x1), some (vi x2)] h =
  am_r1 (G 110 [vr 7 82, vi x1] h) fun h1 v2 =>
  if v2 = 0 then
    (some (h1, some (-1)))
  else am_r1 (G 111 [vr 7 82, vi x2] h1) fun h3 v4 =>
  if v4 = 0 then
    (some (h3, some (-1)))
  else am_b 5 x2 fun j5 =>
  if (h3 112 j5) = x1 then
    (if (h3 100 0) = 40 then
      (some (h3, some (-3)))
    else am_r0 (G 134 [vr 7 82, vi 3, vi x1, vi x2] h3) fun h6 =>
    am_r1 (G 122 [vr 7 82, vi 3, vi x1, vi x2] h6) fun h7 v8 =>
    am_r1 (G 129 [vr 7 82, vi x1] h7) fun h9 v10 =>
    am_r1 (G 135 [vi v10] h9) fun h11 v12 =>
    some (h11, some v12))
  else some (h3, some (-2)) := rfl
set_option maxRecDepth 20000 in
theorem qM_undo_0 (G : Nat → List am_V → am_H → am_Z) (n : Nat)  (h : am_H) : am_run 0 (fun _ => 0) cM_undo G (n + 1) 0 [some (vr 7 82)] h =
  if (h 100 0) = 0 then
    (some (h, some (-2)))
  else am_r0 (G 123 [vr 7 82] (am_up h 100 0 ((h 100 0) - 1))) fun h1 =>
  some (h1, some (h1 100 0)) := rfl
set_option maxRecDepth 20000 in
theorem qM_meet_0 (G : Nat → List am_V → am_H → am_Z) (n : Nat) (x1 : Int32) (x2 : Int32) (x3 : Int32) (h : am_H) : am_run 0 (fun _ => 0) cM_meet G (n + 1) 0 [some (vr 7 82), some (vi x1), some (vi x2), some (vi x3), none, none, none, none, none, none] h =
  am_r1 (G 110 [vr 7 82, vi x1] h) fun h1 v2 =>
  if v2 = 0 then
    (some (h1, some (-1)))
  else am_r1 (G 110 [vr 7 82, vi x2] h1) fun h3 v4 =>
  if v4 = 0 then
    (some (h3, some (-1)))
  else am_r1 (G 95 [vl (Int32.toInt64 x3), vl (Int32.toInt64 0), vl (Int32.toInt64 1)] h3) fun h5 v6 =>
  if v6 = 0 then
    (some (h5, some (-1)))
  else am_run 0 (fun _ => 0) cM_meet G n 25 [some (vr 7 82), some (vi x1), some (vi x2), some (vi x3), some (vi 1000000), some (vi (-4)), some (vi (41 * x1)), none, none, none] h5 := rfl
set_option maxRecDepth 20000 in
theorem qM_meet_25 (G : Nat → List am_V → am_H → am_Z) (n : Nat) (x1 : Int32) (x2 : Int32) (x3 : Int32) (x4 : Int32) (x5 : Int32) (x6 : Int32) (u7 : Option am_V) (u8 : Option am_V) (u9 : Option am_V) (h : am_H) : am_run 0 (fun _ => 0) cM_meet G (n + 1) 25 [some (vr 7 82), some (vi x1), some (vi x2), some (vi x3), some (vi x4), some (vi x5), some (vi x6), u7, u8, u9] h =
  am_b 4 x1 fun j1 =>
  if x6 < ((41 * x1) + (h 115 j1)) then
    (am_run 0 (fun _ => 0) cM_meet G n 40 [some (vr 7 82), some (vi x1), some (vi x2), some (vi x3), some (vi x4), some (vi x5), some (vi x6), some (vi (41 * x2)), u8, u9] h)
  else if x4 = 1000000 then
    (some (h, some (-4)))
  else if x3 = 0 then
    (some (h, some (x4 + 100000)))
  else some (h, some x5) := rfl
set_option maxRecDepth 20000 in
theorem qM_meet_40 (G : Nat → List am_V → am_H → am_Z) (n : Nat) (x1 : Int32) (x2 : Int32) (x3 : Int32) (x4 : Int32) (x5 : Int32) (x6 : Int32) (x7 : Int32) (u8 : Option am_V) (u9 : Option am_V) (h : am_H) : am_run 0 (fun _ => 0) cM_meet G (n + 1) 40 [some (vr 7 82), some (vi x1), some (vi x2), some (vi x3), some (vi x4), some (vi x5), some (vi x6), some (vi x7), u8, u9] h =
  am_b 4 x2 fun j1 =>
  if x7 < ((41 * x2) + (h 115 j1)) then
    (am_b 164 x6 fun j2 =>
    am_b 164 x7 fun j3 =>
    if (h 117 j3) < (h 117 j2) then
      (am_b 164 x6 fun j4 =>
      if x6 = x7 then
        (am_run 0 (fun _ => 0) cM_meet G n 40 [some (vr 7 82), some (vi x1), some (vi x2), some (vi x3), some (vi x4), some (vi x5), some (vi x6), some (vi (x7 + 1)), some (vi (h 117 j4)), some (vi 0)] h)
      else am_b 164 x6 fun j5 =>
      am_b 164 x7 fun j6 =>
      if (h 116 j5) = (h 116 j6) then
        (am_b 164 x6 fun j7 =>
        if (h 118 j7) < (h 117 j4) then
          (am_run 0 (fun _ => 0) cM_meet G n 40 [some (vr 7 82), some (vi x1), some (vi x2), some (vi x3), some (vi x4), some (vi x5), some (vi x6), some (vi (x7 + 1)), some (vi (h 117 j4)), some (vi 0)] h)
        else am_b 164 x7 fun j8 =>
        if (h 118 j8) < (h 117 j4) then
          (am_run 0 (fun _ => 0) cM_meet G n 40 [some (vr 7 82), some (vi x1), some (vi x2), some (vi x3), some (vi x4), some (vi x5), some (vi x6), some (vi (x7 + 1)), some (vi (h 117 j4)), some (vi 0)] h)
        else if (h 117 j4) < x4 then
          (am_b 164 x6 fun j9 =>
          am_run 0 (fun _ => 0) cM_meet G n 40 [some (vr 7 82), some (vi x1), some (vi x2), some (vi x3), some (vi (h 117 j4)), some (vi (h 116 j9)), some (vi x6), some (vi (x7 + 1)), some (vi (h 117 j4)), some (vi 1)] h)
        else if (h 117 j4) = x4 then
          (am_b 164 x6 fun j10 =>
          if (h 116 j10) < x5 then
            (am_b 164 x6 fun j11 =>
            am_run 0 (fun _ => 0) cM_meet G n 40 [some (vr 7 82), some (vi x1), some (vi x2), some (vi x3), some (vi (h 117 j4)), some (vi (h 116 j11)), some (vi x6), some (vi (x7 + 1)), some (vi (h 117 j4)), some (vi 1)] h)
          else am_run 0 (fun _ => 0) cM_meet G n 40 [some (vr 7 82), some (vi x1), some (vi x2), some (vi x3), some (vi x4), some (vi x5), some (vi x6), some (vi (x7 + 1)), some (vi (h 117 j4)), some (vi 1)] h)
        else am_run 0 (fun _ => 0) cM_meet G n 40 [some (vr 7 82), some (vi x1), some (vi x2), some (vi x3), some (vi x4), some (vi x5), some (vi x6), some (vi (x7 + 1)), some (vi (h 117 j4)), some (vi 1)] h)
      else am_run 0 (fun _ => 0) cM_meet G n 40 [some (vr 7 82), some (vi x1), some (vi x2), some (vi x3), some (vi x4), some (vi x5), some (vi x6), some (vi (x7 + 1)), some (vi (h 117 j4)), some (vi 0)] h)
    else am_b 164 x7 fun j12 =>
    if x6 = x7 then
      (am_run 0 (fun _ => 0) cM_meet G n 40 [some (vr 7 82), some (vi x1), some (vi x2), some (vi x3), some (vi x4), some (vi x5), some (vi x6), some (vi (x7 + 1)), some (vi (h 117 j12)), some (vi 0)] h)
    else am_b 164 x6 fun j13 =>
    am_b 164 x7 fun j14 =>
    if (h 116 j13) = (h 116 j14) then
      (am_b 164 x6 fun j15 =>
      if (h 118 j15) < (h 117 j12) then
        (am_run 0 (fun _ => 0) cM_meet G n 40 [some (vr 7 82), some (vi x1), some (vi x2), some (vi x3), some (vi x4), some (vi x5), some (vi x6), some (vi (x7 + 1)), some (vi (h 117 j12)), some (vi 0)] h)
      else am_b 164 x7 fun j16 =>
      if (h 118 j16) < (h 117 j12) then
        (am_run 0 (fun _ => 0) cM_meet G n 40 [some (vr 7 82), some (vi x1), some (vi x2), some (vi x3), some (vi x4), some (vi x5), some (vi x6), some (vi (x7 + 1)), some (vi (h 117 j12)), some (vi 0)] h)
      else if (h 117 j12) < x4 then
        (am_b 164 x6 fun j17 =>
        am_run 0 (fun _ => 0) cM_meet G n 40 [some (vr 7 82), some (vi x1), some (vi x2), some (vi x3), some (vi (h 117 j12)), some (vi (h 116 j17)), some (vi x6), some (vi (x7 + 1)), some (vi (h 117 j12)), some (vi 1)] h)
      else if (h 117 j12) = x4 then
        (am_b 164 x6 fun j18 =>
        if (h 116 j18) < x5 then
          (am_b 164 x6 fun j19 =>
          am_run 0 (fun _ => 0) cM_meet G n 40 [some (vr 7 82), some (vi x1), some (vi x2), some (vi x3), some (vi (h 117 j12)), some (vi (h 116 j19)), some (vi x6), some (vi (x7 + 1)), some (vi (h 117 j12)), some (vi 1)] h)
        else am_run 0 (fun _ => 0) cM_meet G n 40 [some (vr 7 82), some (vi x1), some (vi x2), some (vi x3), some (vi x4), some (vi x5), some (vi x6), some (vi (x7 + 1)), some (vi (h 117 j12)), some (vi 1)] h)
      else am_run 0 (fun _ => 0) cM_meet G n 40 [some (vr 7 82), some (vi x1), some (vi x2), some (vi x3), some (vi x4), some (vi x5), some (vi x6), some (vi (x7 + 1)), some (vi (h 117 j12)), some (vi 1)] h)
    else am_run 0 (fun _ => 0) cM_meet G n 40 [some (vr 7 82), some (vi x1), some (vi x2), some (vi x3), some (vi x4), some (vi x5), some (vi x6), some (vi (x7 + 1)), some (vi (h 117 j12)), some (vi 0)] h)
  else am_run 0 (fun _ => 0) cM_meet G n 25 [some (vr 7 82), some (vi x1), some (vi x2), some (vi x3), some (vi x4), some (vi x5), some (vi (x6 + 1)), some (vi x7), u8, u9] h := rfl
set_option maxRecDepth 20000 in
theorem qM_costOf_0 (G : Nat → List am_V → am_H → am_Z) (n : Nat) (x1 : Int32) (x2 : Int32) (h : am_H) : am_run 0 (fun _ => 0) cM_costOf G (n + 1) 0 [some (vr 7 82), some (vi x1), some (vi x2)] h =
  am_r1 (G 112 [vr 7 82, vi x2] h) fun h1 v2 =>
  am_r1 (G 116 [vr 7 82, vi x1, vi x2] h1) fun h3 v4 =>
  some (h3, some (((h 99 0) * v2) + (12 * v4))) := rfl
set_option maxRecDepth 20000 in
theorem qM_layLow_0 (G : Nat → List am_V → am_H → am_Z) (n : Nat) (x1 : Int32) (x2 : Int32) (h : am_H) : am_run 0 (fun _ => 0) cM_layLow G (n + 1) 0 [some (vr 7 82), some (vi x1), some (vi x2), none, none, none, none, none, none] h =
  am_run 0 (fun _ => 0) cM_layLow G n 3 [some (vr 7 82), some (vi x1), some (vi x2), some (vi 0), none, none, none, none, none] h := rfl
set_option maxRecDepth 20000 in
theorem qM_layLow_3 (G : Nat → List am_V → am_H → am_Z) (n : Nat) (x1 : Int32) (x2 : Int32) (x3 : Int32) (u4 : Option am_V) (u5 : Option am_V) (u6 : Option am_V) (u7 : Option am_V) (u8 : Option am_V) (h : am_H) : am_run 0 (fun _ => 0) cM_layLow G (n + 1) 3 [some (vr 7 82), some (vi x1), some (vi x2), some (vi x3), u4, u5, u6, u7, u8] h =
  if x3 < 54 then
    (am_b 54 x3 fun j1 =>
    am_run 0 (fun _ => 0) cM_layLow G n 3 [some (vr 7 82), some (vi x1), some (vi x2), some (vi (x3 + 1)), u4, u5, u6, u7, u8] (am_up h 119 j1 1000000))
  else am_b 54 x1 fun j2 =>
  am_run 0 (fun _ => 0) cM_layLow G n 21 [some (vr 7 82), some (vi x1), some (vi x2), some (vi 0), u4, u5, u6, u7, u8] (am_up h 119 j2 x2) := rfl
set_option maxRecDepth 20000 in
theorem qM_layLow_21 (G : Nat → List am_V → am_H → am_Z) (n : Nat) (x1 : Int32) (x2 : Int32) (x3 : Int32) (u4 : Option am_V) (u5 : Option am_V) (u6 : Option am_V) (u7 : Option am_V) (u8 : Option am_V) (h : am_H) : am_run 0 (fun _ => 0) cM_layLow G (n + 1) 21 [some (vr 7 82), some (vi x1), some (vi x2), some (vi x3), u4, u5, u6, u7, u8] h =
  if x3 < 8 then
    (am_run 0 (fun _ => 0) cM_layLow G n 27 [some (vr 7 82), some (vi x1), some (vi x2), some (vi x3), some (vi 0), u5, u6, u7, u8] h)
  else some (h, none) := rfl
set_option maxRecDepth 20000 in
theorem qM_layLow_27 (G : Nat → List am_V → am_H → am_Z) (n : Nat) (x1 : Int32) (x2 : Int32) (x3 : Int32) (x4 : Int32) (u5 : Option am_V) (u6 : Option am_V) (u7 : Option am_V) (u8 : Option am_V) (h : am_H) : am_run 0 (fun _ => 0) cM_layLow G (n + 1) 27 [some (vr 7 82), some (vi x1), some (vi x2), some (vi x3), some (vi x4), u5, u6, u7, u8] h =
  if x4 < (h 88 0) then
    (am_run 0 (fun _ => 0) cM_layLow G n 36 [some (vr 7 82), some (vi x1), some (vi x2), some (vi x3), some (vi x4), some (vi 0), u6, u7, u8] h)
  else am_run 0 (fun _ => 0) cM_layLow G n 21 [some (vr 7 82), some (vi x1), some (vi x2), some (vi (x3 + 1)), some (vi x4), u5, u6, u7, u8] h := rfl
set_option maxRecDepth 20000 in
theorem qM_layLow_36 (G : Nat → List am_V → am_H → am_Z) (n : Nat) (x1 : Int32) (x2 : Int32) (x3 : Int32) (x4 : Int32) (x5 : Int32) (u6 : Option am_V) (u7 : Option am_V) (u8 : Option am_V) (h : am_H) : am_run 0 (fun _ => 0) cM_layLow G (n + 1) 36 [some (vr 7 82), some (vi x1), some (vi x2), some (vi x3), some (vi x4), some (vi x5), u6, u7, u8] h =
  if x5 < 2 then
    (if x5 = 0 then
      (am_b 16 x4 fun j1 =>
      am_r1 (G 117 [vr 7 82, vi x4, vi (h 89 j1)] h) fun h2 v3 =>
      am_b 54 ((6 * x3) + (h 89 j1)) fun j4 =>
      am_r1 (G 142 [vr 7 82, vi x4, vi (h 89 j1)] h2) fun h5 v6 =>
      am_b 54 ((6 * x3) + (h 89 j1)) fun j7 =>
      if (h5 119 j7) < 1000000 then
        (am_b 54 ((6 * (x3 + 1)) + v3) fun j8 =>
        if ((h2 119 j4) + v6) < (h5 119 j8) then
          (am_b 54 ((6 * (x3 + 1)) + v3) fun j9 =>
          am_run 0 (fun _ => 0) cM_layLow G n 36 [some (vr 7 82), some (vi x1), some (vi x2), some (vi x3), some (vi x4), some (vi (x5 + 1)), some (vi (h 89 j1)), some (vi ((6 * (x3 + 1)) + v3)), some (vi ((h2 119 j4) + v6))] (am_up h5 119 j9 ((h2 119 j4) + v6)))
        else am_b 54 ((6 * (x3 + 1)) + v3) fun j10 =>
        am_b 54 ((6 * (x3 + 1)) + v3) fun j11 =>
        am_run 0 (fun _ => 0) cM_layLow G n 36 [some (vr 7 82), some (vi x1), some (vi x2), some (vi x3), some (vi x4), some (vi (x5 + 1)), some (vi (h 89 j1)), some (vi ((6 * (x3 + 1)) + v3)), some (vi ((h2 119 j4) + v6))] (am_up h5 119 j11 (h5 119 j10)))
      else am_b 54 ((6 * (x3 + 1)) + v3) fun j12 =>
      am_b 54 ((6 * (x3 + 1)) + v3) fun j13 =>
      am_run 0 (fun _ => 0) cM_layLow G n 36 [some (vr 7 82), some (vi x1), some (vi x2), some (vi x3), some (vi x4), some (vi (x5 + 1)), some (vi (h 89 j1)), some (vi ((6 * (x3 + 1)) + v3)), some (vi ((h2 119 j4) + v6))] (am_up h5 119 j13 (h5 119 j12)))
    else am_b 16 x4 fun j14 =>
    am_r1 (G 117 [vr 7 82, vi x4, vi (h 90 j14)] h) fun h15 v16 =>
    am_b 54 ((6 * x3) + (h 90 j14)) fun j17 =>
    am_r1 (G 142 [vr 7 82, vi x4, vi (h 90 j14)] h15) fun h18 v19 =>
    am_b 54 ((6 * x3) + (h 90 j14)) fun j20 =>
    if (h18 119 j20) < 1000000 then
      (am_b 54 ((6 * (x3 + 1)) + v16) fun j21 =>
      if ((h15 119 j17) + v19) < (h18 119 j21) then
        (am_b 54 ((6 * (x3 + 1)) + v16) fun j22 =>
        am_run 0 (fun _ => 0) cM_layLow G n 36 [some (vr 7 82), some (vi x1), some (vi x2), some (vi x3), some (vi x4), some (vi (x5 + 1)), some (vi (h 90 j14)), some (vi ((6 * (x3 + 1)) + v16)), some (vi ((h15 119 j17) + v19))] (am_up h18 119 j22 ((h15 119 j17) + v19)))
      else am_b 54 ((6 * (x3 + 1)) + v16) fun j23 =>
      am_b 54 ((6 * (x3 + 1)) + v16) fun j24 =>
      am_run 0 (fun _ => 0) cM_layLow G n 36 [some (vr 7 82), some (vi x1), some (vi x2), some (vi x3), some (vi x4), some (vi (x5 + 1)), some (vi (h 90 j14)), some (vi ((6 * (x3 + 1)) + v16)), some (vi ((h15 119 j17) + v19))] (am_up h18 119 j24 (h18 119 j23)))
    else am_b 54 ((6 * (x3 + 1)) + v16) fun j25 =>
    am_b 54 ((6 * (x3 + 1)) + v16) fun j26 =>
    am_run 0 (fun _ => 0) cM_layLow G n 36 [some (vr 7 82), some (vi x1), some (vi x2), some (vi x3), some (vi x4), some (vi (x5 + 1)), some (vi (h 90 j14)), some (vi ((6 * (x3 + 1)) + v16)), some (vi ((h15 119 j17) + v19))] (am_up h18 119 j26 (h18 119 j25)))
  else am_run 0 (fun _ => 0) cM_layLow G n 27 [some (vr 7 82), some (vi x1), some (vi x2), some (vi x3), some (vi (x4 + 1)), some (vi x5), u6, u7, u8] h := rfl
set_option maxRecDepth 20000 in
theorem qM_early_0 (G : Nat → List am_V → am_H → am_Z) (n : Nat) (x1 : Int32) (x2 : Int32) (x3 : Int32) (x4 : Int32) (h : am_H) : am_run 0 (fun _ => 0) cM_early G (n + 1) 0 [some (vr 7 82), some (vi x1), some (vi x2), some (vi x3), some (vi x4), none, none, none] h =
  am_r1 (G 110 [vr 7 82, vi x1] h) fun h1 v2 =>
  if v2 = 0 then
    (some (h1, some (-1)))
  else am_r1 (G 108 [vr 7 82, vi x2] h1) fun h3 v4 =>
  if v4 = 0 then
    (some (h3, some (-1)))
  else am_r1 (G 95 [vl (Int32.toInt64 x3), vl (Int32.toInt64 0), vl (Int32.toInt64 8)] h3) fun h5 v6 =>
  if v6 = 0 then
    (some (h5, some (-1)))
  else am_r1 (G 95 [vl (Int32.toInt64 x4), vl (Int32.toInt64 0), vl (Int32.toInt64 2)] h5) fun h7 v8 =>
  if v8 = 0 then
    (some (h7, some (-1)))
  else am_b 4 x1 fun j9 =>
  am_b 4 x1 fun j10 =>
  am_r0 (G 143 [vr 7 82, vi (h7 108 j9), vi (h7 109 j10)] h7) fun h11 =>
  am_run 0 (fun _ => 0) cM_early G n 39 [some (vr 7 82), some (vi x1), some (vi x2), some (vi x3), some (vi x4), some (vi (-4)), some (vi 1000000), some (vi 0)] h11 := rfl
set_option maxRecDepth 20000 in
theorem qM_early_39 (G : Nat → List am_V → am_H → am_Z) (n : Nat) (x1 : Int32) (x2 : Int32) (x3 : Int32) (x4 : Int32) (x5 : Int32) (x6 : Int32) (x7 : Int32) (h : am_H) : am_run 0 (fun _ => 0) cM_early G (n + 1) 39 [some (vr 7 82), some (vi x1), some (vi x2), some (vi x3), some (vi x4), some (vi x5), some (vi x6), some (vi x7)] h =
  if x3 < x7 then
    (if x5 < 0 then
      (some (h, some (-4)))
    else if x4 < 2 then
      (if x4 = 0 then
        (some (h, some (x6 + 100000)))
      else some (h, some x5))
    else am_run 0 (fun _ => 0) cM_early G n 97 [some (vr 7 82), some (vi x1), some (vi x2), some (vi x3), some (vi x4), some (vi x5), some (vi x6), some (vi 0)] h)
  else am_b 54 ((6 * x7) + x2) fun j1 =>
  if (h 119 j1) < x6 then
    (am_b 54 ((6 * x7) + x2) fun j2 =>
    if (h 119 j2) < x6 then
      (am_b 54 ((6 * x7) + x2) fun j3 =>
      am_run 0 (fun _ => 0) cM_early G n 39 [some (vr 7 82), some (vi x1), some (vi x2), some (vi x3), some (vi x4), some (vi x7), some (vi (h 119 j3)), some (vi (x7 + 1))] h)
    else am_run 0 (fun _ => 0) cM_early G n 39 [some (vr 7 82), some (vi x1), some (vi x2), some (vi x3), some (vi x4), some (vi x7), some (vi x6), some (vi (x7 + 1))] h)
  else am_b 54 ((6 * x7) + x2) fun j4 =>
  if (h 119 j4) < x6 then
    (am_b 54 ((6 * x7) + x2) fun j5 =>
    am_run 0 (fun _ => 0) cM_early G n 39 [some (vr 7 82), some (vi x1), some (vi x2), some (vi x3), some (vi x4), some (vi x5), some (vi (h 119 j5)), some (vi (x7 + 1))] h)
  else am_run 0 (fun _ => 0) cM_early G n 39 [some (vr 7 82), some (vi x1), some (vi x2), some (vi x3), some (vi x4), some (vi x5), some (vi x6), some (vi (x7 + 1))] h := rfl
set_option maxRecDepth 20000 in
theorem qM_early_97 (G : Nat → List am_V → am_H → am_Z) (n : Nat) (x1 : Int32) (x2 : Int32) (x3 : Int32) (x4 : Int32) (x5 : Int32) (x6 : Int32) (x7 : Int32) (h : am_H) : am_run 0 (fun _ => 0) cM_early G (n + 1) 97 [some (vr 7 82), some (vi x1), some (vi x2), some (vi x3), some (vi x4), some (vi x5), some (vi x6), some (vi x7)] h =
  if x7 < (h 88 0) then
    (if 0 < x5 then
      (am_b 4 x1 fun j1 =>
      am_r1 (G 115 [vr 7 82, vi x7, vi (h 108 j1)] h) fun h2 v3 =>
      if v3 = 0 then
        (am_run 0 (fun _ => 0) cM_early G n 97 [some (vr 7 82), some (vi x1), some (vi x2), some (vi x3), some (vi x4), some (vi x5), some (vi x6), some (vi (x7 + 1))] h2)
      else am_b 4 x1 fun j4 =>
      am_r1 (G 117 [vr 7 82, vi x7, vi (h2 108 j4)] h2) fun h5 v6 =>
      am_b 4 x1 fun j7 =>
      am_b 4 x1 fun j8 =>
      am_r1 (G 142 [vr 7 82, vi x7, vi (h5 108 j8)] h5) fun h9 v10 =>
      am_r0 (G 143 [vr 7 82, vi v6, vi ((h5 109 j7) + v10)] h9) fun h11 =>
      am_b 54 ((6 * (x5 - 1)) + x2) fun j12 =>
      if (h11 119 j12) = x6 then
        (some (h11, some x7))
      else am_run 0 (fun _ => 0) cM_early G n 97 [some (vr 7 82), some (vi x1), some (vi x2), some (vi x3), some (vi x4), some (vi x5), some (vi x6), some (vi (x7 + 1))] h11)
    else some (h, some (-4)))
  else some (h, some (-4)) := rfl
set_option maxRecDepth 20000 in
theorem qM_ring_0 (G : Nat → List am_V → am_H → am_Z) (n : Nat) (x1 : Int32) (h : am_H) : am_run 0 (fun _ => 0) cM_ring G (n + 1) 0 [some (vr 7 82), some (vi x1), none, none, none, none, none] h =
  am_r1 (G 95 [vl (Int32.toInt64 x1), vl (Int32.toInt64 0), vl (Int32.toInt64 2)] h) fun h1 v2 =>
  if v2 = 0 then
    (some (h1, some (-1)))
  else am_run 0 (fun _ => 0) cM_ring G n 17 [some (vr 7 82), some (vi x1), some (vi (-4)), some (vi (-4)), some (vi 0), some (vi 0), none] h1 := rfl
set_option maxRecDepth 20000 in
theorem qM_ring_17 (G : Nat → List am_V → am_H → am_Z) (n : Nat) (x1 : Int32) (x2 : Int32) (x3 : Int32) (x4 : Int32) (x5 : Int32) (u6 : Option am_V) (h : am_H) : am_run 0 (fun _ => 0) cM_ring G (n + 1) 17 [some (vr 7 82), some (vi x1), some (vi x2), some (vi x3), some (vi x4), some (vi x5), u6] h =
  if x5 < (h 84 0) then
    (am_r0 (G 143 [vr 7 82, vi x5, vi 0] h) fun h1 =>
    am_run 0 (fun _ => 0) cM_ring G n 30 [some (vr 7 82), some (vi x1), some (vi x2), some (vi x3), some (vi x4), some (vi x5), some (vi 8)] h1)
  else if x2 < 0 then
    (some (h, some (-4)))
  else if x1 = 0 then
    (some (h, some x2))
  else if x1 = 1 then
    (some (h, some x3))
  else some (h, some x4) := rfl
set_option maxRecDepth 20000 in
theorem qM_ring_30 (G : Nat → List am_V → am_H → am_Z) (n : Nat) (x1 : Int32) (x2 : Int32) (x3 : Int32) (x4 : Int32) (x5 : Int32) (x6 : Int32) (h : am_H) : am_run 0 (fun _ => 0) cM_ring G (n + 1) 30 [some (vr 7 82), some (vi x1), some (vi x2), some (vi x3), some (vi x4), some (vi x5), some (vi x6)] h =
  if x6 < 2 then
    (am_run 0 (fun _ => 0) cM_ring G n 17 [some (vr 7 82), some (vi x1), some (vi x2), some (vi x3), some (vi x4), some (vi (x5 + 1)), some (vi x6)] h)
  else am_b 54 ((6 * x6) + x5) fun j1 =>
  if (h 119 j1) < 0 then
    (if x2 < 0 then
      (am_b 54 ((6 * x6) + x5) fun j2 =>
      am_run 0 (fun _ => 0) cM_ring G n 30 [some (vr 7 82), some (vi x1), some (vi x6), some (vi x5), some (vi (-(h 119 j2))), some (vi x5), some (vi (x6 + (-1)))] h)
    else if x6 < x2 then
      (am_b 54 ((6 * x6) + x5) fun j3 =>
      am_run 0 (fun _ => 0) cM_ring G n 30 [some (vr 7 82), some (vi x1), some (vi x6), some (vi x5), some (vi (-(h 119 j3))), some (vi x5), some (vi (x6 + (-1)))] h)
    else if x6 = x2 then
      (if x3 = x5 then
        (am_b 54 ((6 * x6) + x5) fun j4 =>
        am_run 0 (fun _ => 0) cM_ring G n 30 [some (vr 7 82), some (vi x1), some (vi x6), some (vi x5), some (vi (-(h 119 j4))), some (vi x5), some (vi (x6 + (-1)))] h)
      else am_run 0 (fun _ => 0) cM_ring G n 30 [some (vr 7 82), some (vi x1), some (vi x2), some (vi x3), some (vi x4), some (vi x5), some (vi (x6 + (-1)))] h)
    else am_run 0 (fun _ => 0) cM_ring G n 30 [some (vr 7 82), some (vi x1), some (vi x2), some (vi x3), some (vi x4), some (vi x5), some (vi (x6 + (-1)))] h)
  else am_run 0 (fun _ => 0) cM_ring G n 30 [some (vr 7 82), some (vi x1), some (vi x2), some (vi x3), some (vi x4), some (vi x5), some (vi (x6 + (-1)))] h := rfl
set_option maxRecDepth 20000 in
theorem qM_even_0 (G : Nat → List am_V → am_H → am_Z) (n : Nat)  (h : am_H) : am_run 0 (fun _ => 0) cM_even G (n + 1) 0 [some (vr 7 82), none, none, none, none, none, none] h =
  am_run 0 (fun _ => 0) cM_even G n 3 [some (vr 7 82), some (vi 0), none, none, none, none, none] h := rfl
set_option maxRecDepth 20000 in
theorem qM_even_3 (G : Nat → List am_V → am_H → am_Z) (n : Nat) (x1 : Int32) (u2 : Option am_V) (u3 : Option am_V) (u4 : Option am_V) (u5 : Option am_V) (u6 : Option am_V) (h : am_H) : am_run 0 (fun _ => 0) cM_even G (n + 1) 3 [some (vr 7 82), some (vi x1), u2, u3, u4, u5, u6] h =
  if x1 < 6 then
    (am_b 6 x1 fun j1 =>
    am_run 0 (fun _ => 0) cM_even G n 3 [some (vr 7 82), some (vi (x1 + 1)), u2, u3, u4, u5, u6] (am_up h 120 j1 1000000))
  else am_run 0 (fun _ => 0) cM_even G n 18 [some (vr 7 82), some (vi 1), some (vi 0), u3, u4, u5, u6] h := rfl
set_option maxRecDepth 20000 in
theorem qM_even_18 (G : Nat → List am_V → am_H → am_Z) (n : Nat) (x1 : Int32) (x2 : Int32) (u3 : Option am_V) (u4 : Option am_V) (u5 : Option am_V) (u6 : Option am_V) (h : am_H) : am_run 0 (fun _ => 0) cM_even G (n + 1) 18 [some (vr 7 82), some (vi x1), some (vi x2), u3, u4, u5, u6] h =
  if x2 < (h 84 0) then
    (am_b 6 x2 fun j1 =>
    if (h 120 j1) = 1000000 then
      (am_b 6 x2 fun j2 =>
      am_run 0 (fun _ => 0) cM_even G n 38 [some (vr 7 82), some (vi x1), some (vi x2), some (vi 0), u4, u5, u6] (am_up h 120 j2 0))
    else am_run 0 (fun _ => 0) cM_even G n 18 [some (vr 7 82), some (vi x1), some (vi (x2 + 1)), u3, u4, u5, u6] h)
  else am_run 0 (fun _ => 0) cM_even G n 129 [some (vr 7 82), some (vi x1), some (vi 0), u3, u4, u5, u6] h := rfl
set_option maxRecDepth 20000 in
theorem qM_even_38 (G : Nat → List am_V → am_H → am_Z) (n : Nat) (x1 : Int32) (x2 : Int32) (x3 : Int32) (u4 : Option am_V) (u5 : Option am_V) (u6 : Option am_V) (h : am_H) : am_run 0 (fun _ => 0) cM_even G (n + 1) 38 [some (vr 7 82), some (vi x1), some (vi x2), some (vi x3), u4, u5, u6] h =
  if x3 < 6 then
    (am_run 0 (fun _ => 0) cM_even G n 44 [some (vr 7 82), some (vi x1), some (vi x2), some (vi x3), some (vi 0), u5, u6] h)
  else am_run 0 (fun _ => 0) cM_even G n 18 [some (vr 7 82), some (vi x1), some (vi (x2 + 1)), some (vi x3), u4, u5, u6] h := rfl
set_option maxRecDepth 20000 in
theorem qM_even_44 (G : Nat → List am_V → am_H → am_Z) (n : Nat) (x1 : Int32) (x2 : Int32) (x3 : Int32) (x4 : Int32) (u5 : Option am_V) (u6 : Option am_V) (h : am_H) : am_run 0 (fun _ => 0) cM_even G (n + 1) 44 [some (vr 7 82), some (vi x1), some (vi x2), some (vi x3), some (vi x4), u5, u6] h =
  if x4 < (h 88 0) then
    (am_b 16 x4 fun j1 =>
    am_b 16 x4 fun j2 =>
    am_b 6 (h 89 j1) fun j3 =>
    if (h 120 j3) < 1000000 then
      (am_b 6 (h 90 j2) fun j4 =>
      if (h 120 j4) = 1000000 then
        (am_b 6 (h 89 j1) fun j5 =>
        am_b 16 x4 fun j6 =>
        am_b 6 (h 90 j2) fun j7 =>
        am_b 6 (h 90 j2) fun j8 =>
        if ((am_up h 120 j7 ((h 120 j5) + (h 91 j6))) 120 j8) < 1000000 then
          (am_b 6 (h 89 j1) fun j9 =>
          if ((am_up h 120 j7 ((h 120 j5) + (h 91 j6))) 120 j9) = 1000000 then
            (am_b 6 (h 90 j2) fun j10 =>
            am_b 16 x4 fun j11 =>
            am_b 6 (h 89 j1) fun j12 =>
            am_run 0 (fun _ => 0) cM_even G n 44 [some (vr 7 82), some (vi x1), some (vi x2), some (vi x3), some (vi (x4 + 1)), some (vi (h 89 j1)), some (vi (h 90 j2))] (am_up (am_up h 120 j7 ((h 120 j5) + (h 91 j6))) 120 j12 (((am_up h 120 j7 ((h 120 j5) + (h 91 j6))) 120 j10) - (h 91 j11))))
          else am_b 6 (h 89 j1) fun j13 =>
          am_b 6 (h 89 j1) fun j14 =>
          am_run 0 (fun _ => 0) cM_even G n 44 [some (vr 7 82), some (vi x1), some (vi x2), some (vi x3), some (vi (x4 + 1)), some (vi (h 89 j1)), some (vi (h 90 j2))] (am_up (am_up h 120 j7 ((h 120 j5) + (h 91 j6))) 120 j14 ((am_up h 120 j7 ((h 120 j5) + (h 91 j6))) 120 j13)))
        else am_b 6 (h 89 j1) fun j15 =>
        am_b 6 (h 89 j1) fun j16 =>
        am_run 0 (fun _ => 0) cM_even G n 44 [some (vr 7 82), some (vi x1), some (vi x2), some (vi x3), some (vi (x4 + 1)), some (vi (h 89 j1)), some (vi (h 90 j2))] (am_up (am_up h 120 j7 ((h 120 j5) + (h 91 j6))) 120 j16 ((am_up h 120 j7 ((h 120 j5) + (h 91 j6))) 120 j15)))
      else am_b 6 (h 90 j2) fun j17 =>
      am_b 6 (h 90 j2) fun j18 =>
      am_b 6 (h 90 j2) fun j19 =>
      if ((am_up h 120 j18 (h 120 j17)) 120 j19) < 1000000 then
        (am_b 6 (h 89 j1) fun j20 =>
        if ((am_up h 120 j18 (h 120 j17)) 120 j20) = 1000000 then
          (am_b 6 (h 90 j2) fun j21 =>
          am_b 16 x4 fun j22 =>
          am_b 6 (h 89 j1) fun j23 =>
          am_run 0 (fun _ => 0) cM_even G n 44 [some (vr 7 82), some (vi x1), some (vi x2), some (vi x3), some (vi (x4 + 1)), some (vi (h 89 j1)), some (vi (h 90 j2))] (am_up (am_up h 120 j18 (h 120 j17)) 120 j23 (((am_up h 120 j18 (h 120 j17)) 120 j21) - (h 91 j22))))
        else am_b 6 (h 89 j1) fun j24 =>
        am_b 6 (h 89 j1) fun j25 =>
        am_run 0 (fun _ => 0) cM_even G n 44 [some (vr 7 82), some (vi x1), some (vi x2), some (vi x3), some (vi (x4 + 1)), some (vi (h 89 j1)), some (vi (h 90 j2))] (am_up (am_up h 120 j18 (h 120 j17)) 120 j25 ((am_up h 120 j18 (h 120 j17)) 120 j24)))
      else am_b 6 (h 89 j1) fun j26 =>
      am_b 6 (h 89 j1) fun j27 =>
      am_run 0 (fun _ => 0) cM_even G n 44 [some (vr 7 82), some (vi x1), some (vi x2), some (vi x3), some (vi (x4 + 1)), some (vi (h 89 j1)), some (vi (h 90 j2))] (am_up (am_up h 120 j18 (h 120 j17)) 120 j27 ((am_up h 120 j18 (h 120 j17)) 120 j26)))
    else am_b 6 (h 90 j2) fun j28 =>
    am_b 6 (h 90 j2) fun j29 =>
    am_b 6 (h 90 j2) fun j30 =>
    if ((am_up h 120 j29 (h 120 j28)) 120 j30) < 1000000 then
      (am_b 6 (h 89 j1) fun j31 =>
      if ((am_up h 120 j29 (h 120 j28)) 120 j31) = 1000000 then
        (am_b 6 (h 90 j2) fun j32 =>
        am_b 16 x4 fun j33 =>
        am_b 6 (h 89 j1) fun j34 =>
        am_run 0 (fun _ => 0) cM_even G n 44 [some (vr 7 82), some (vi x1), some (vi x2), some (vi x3), some (vi (x4 + 1)), some (vi (h 89 j1)), some (vi (h 90 j2))] (am_up (am_up h 120 j29 (h 120 j28)) 120 j34 (((am_up h 120 j29 (h 120 j28)) 120 j32) - (h 91 j33))))
      else am_b 6 (h 89 j1) fun j35 =>
      am_b 6 (h 89 j1) fun j36 =>
      am_run 0 (fun _ => 0) cM_even G n 44 [some (vr 7 82), some (vi x1), some (vi x2), some (vi x3), some (vi (x4 + 1)), some (vi (h 89 j1)), some (vi (h 90 j2))] (am_up (am_up h 120 j29 (h 120 j28)) 120 j36 ((am_up h 120 j29 (h 120 j28)) 120 j35)))
    else am_b 6 (h 89 j1) fun j37 =>
    am_b 6 (h 89 j1) fun j38 =>
    am_run 0 (fun _ => 0) cM_even G n 44 [some (vr 7 82), some (vi x1), some (vi x2), some (vi x3), some (vi (x4 + 1)), some (vi (h 89 j1)), some (vi (h 90 j2))] (am_up (am_up h 120 j29 (h 120 j28)) 120 j38 ((am_up h 120 j29 (h 120 j28)) 120 j37)))
  else am_run 0 (fun _ => 0) cM_even G n 38 [some (vr 7 82), some (vi x1), some (vi x2), some (vi (x3 + 1)), some (vi x4), u5, u6] h := rfl
set_option maxRecDepth 20000 in
theorem qM_even_129 (G : Nat → List am_V → am_H → am_Z) (n : Nat) (x1 : Int32) (x2 : Int32) (u3 : Option am_V) (u4 : Option am_V) (u5 : Option am_V) (u6 : Option am_V) (h : am_H) : am_run 0 (fun _ => 0) cM_even G (n + 1) 129 [some (vr 7 82), some (vi x1), some (vi x2), u3, u4, u5, u6] h =
  if x2 < (h 88 0) then
    (if x1 = 0 then
      (am_run 0 (fun _ => 0) cM_even G n 129 [some (vr 7 82), some (vi 0), some (vi (x2 + 1)), u3, u4, u5, u6] h)
    else am_b 16 x2 fun j1 =>
    am_b 6 (h 90 j1) fun j2 =>
    am_b 16 x2 fun j3 =>
    am_b 6 (h 89 j3) fun j4 =>
    am_b 16 x2 fun j5 =>
    if ((h 120 j2) - (h 120 j4)) = (h 91 j5) then
      (am_run 0 (fun _ => 0) cM_even G n 129 [some (vr 7 82), some (vi 1), some (vi (x2 + 1)), u3, u4, u5, u6] h)
    else am_run 0 (fun _ => 0) cM_even G n 129 [some (vr 7 82), some (vi 0), some (vi (x2 + 1)), u3, u4, u5, u6] h)
  else if x1 = 0 then
    (some (h, some 0))
  else some (h, some 1) := rfl
set_option maxRecDepth 20000 in
theorem qM_layStays_0 (G : Nat → List am_V → am_H → am_Z) (n : Nat) (x1 : Int32) (h : am_H) : am_run 0 (fun _ => 0) cM_layStays G (n + 1) 0 [some (vr 7 82), some (vi x1), none, none, none, none, none] h =
  am_run 0 (fun _ => 0) cM_layStays G n 3 [some (vr 7 82), some (vi x1), some (vi 0), none, none, none, none] h := rfl
set_option maxRecDepth 20000 in
theorem qM_layStays_3 (G : Nat → List am_V → am_H → am_Z) (n : Nat) (x1 : Int32) (x2 : Int32) (u3 : Option am_V) (u4 : Option am_V) (u5 : Option am_V) (u6 : Option am_V) (h : am_H) : am_run 0 (fun _ => 0) cM_layStays G (n + 1) 3 [some (vr 7 82), some (vi x1), some (vi x2), u3, u4, u5, u6] h =
  if x2 < 64 then
    (am_run 0 (fun _ => 0) cM_layStays G n 9 [some (vr 7 82), some (vi x1), some (vi x2), some (vi 0), u4, u5, u6] h)
  else some (h, none) := rfl
set_option maxRecDepth 20000 in
theorem qM_layStays_9 (G : Nat → List am_V → am_H → am_Z) (n : Nat) (x1 : Int32) (x2 : Int32) (x3 : Int32) (u4 : Option am_V) (u5 : Option am_V) (u6 : Option am_V) (h : am_H) : am_run 0 (fun _ => 0) cM_layStays G (n + 1) 9 [some (vr 7 82), some (vi x1), some (vi x2), some (vi x3), u4, u5, u6] h =
  if x3 < (h 84 0) then
    (am_r1 (G 96 [vi x1, vi x3] h) fun h1 v2 =>
    if v2 = 0 then
      (am_b 384 ((6 * x2) + x3) fun j3 =>
      am_r1 (G 112 [vr 7 82, vi x3] h1) fun h4 v5 =>
      am_run 0 (fun _ => 0) cM_layStays G n 9 [some (vr 7 82), some (vi x1), some (vi x2), some (vi (x3 + 1)), some (vi 0), some (vi ((6 * (x2 ||| ((1 : Int32) <<< (x3 &&& 31)))) + x3)), some (vi ((h1 121 j3) + v5))] h4)
    else am_r1 (G 96 [vi x2, vi x3] h1) fun h6 v7 =>
    if v7 = 0 then
      (am_b 384 ((6 * x2) + x3) fun j8 =>
      if (h6 121 j8) < 1000000 then
        (am_b 384 ((6 * x2) + x3) fun j9 =>
        am_r1 (G 112 [vr 7 82, vi x3] h6) fun h10 v11 =>
        am_b 384 ((6 * (x2 ||| ((1 : Int32) <<< (x3 &&& 31)))) + x3) fun j12 =>
        if ((h6 121 j9) + v11) < (h10 121 j12) then
          (am_b 384 ((6 * (x2 ||| ((1 : Int32) <<< (x3 &&& 31)))) + x3) fun j13 =>
          am_run 0 (fun _ => 0) cM_layStays G n 9 [some (vr 7 82), some (vi x1), some (vi x2), some (vi (x3 + 1)), some (vi 1), some (vi ((6 * (x2 ||| ((1 : Int32) <<< (x3 &&& 31)))) + x3)), some (vi ((h6 121 j9) + v11))] (am_up h10 121 j13 ((h6 121 j9) + v11)))
        else am_run 0 (fun _ => 0) cM_layStays G n 9 [some (vr 7 82), some (vi x1), some (vi x2), some (vi (x3 + 1)), some (vi 1), some (vi ((6 * (x2 ||| ((1 : Int32) <<< (x3 &&& 31)))) + x3)), some (vi ((h6 121 j9) + v11))] h10)
      else am_b 384 ((6 * x2) + x3) fun j14 =>
      am_r1 (G 112 [vr 7 82, vi x3] h6) fun h15 v16 =>
      am_run 0 (fun _ => 0) cM_layStays G n 9 [some (vr 7 82), some (vi x1), some (vi x2), some (vi (x3 + 1)), some (vi 0), some (vi ((6 * (x2 ||| ((1 : Int32) <<< (x3 &&& 31)))) + x3)), some (vi ((h6 121 j14) + v16))] h15)
    else am_b 384 ((6 * x2) + x3) fun j17 =>
    am_r1 (G 112 [vr 7 82, vi x3] h6) fun h18 v19 =>
    am_run 0 (fun _ => 0) cM_layStays G n 9 [some (vr 7 82), some (vi x1), some (vi x2), some (vi (x3 + 1)), some (vi 0), some (vi ((6 * (x2 ||| ((1 : Int32) <<< (x3 &&& 31)))) + x3)), some (vi ((h6 121 j17) + v19))] h18)
  else am_run 0 (fun _ => 0) cM_layStays G n 3 [some (vr 7 82), some (vi x1), some (vi (x2 + 1)), some (vi x3), u4, u5, u6] h := rfl
set_option maxRecDepth 20000 in
theorem qM_round_0 (G : Nat → List am_V → am_H → am_Z) (n : Nat) (x1 : Int32) (x2 : Int32) (x3 : Int32) (h : am_H) : am_run 0 (fun _ => 0) cM_round G (n + 1) 0 [some (vr 7 82), some (vi x1), some (vi x2), some (vi x3), none, none, none, none, none, none, none, none] h =
  am_r1 (G 110 [vr 7 82, vi x1] h) fun h1 v2 =>
  if v2 = 0 then
    (some (h1, some (-1)))
  else am_r1 (G 95 [vl (Int32.toInt64 x2), vl (Int32.toInt64 0), vl (Int32.toInt64 (((1 : Int32) <<< ((h1 84 0) &&& 31)) - 1))] h1) fun h3 v4 =>
  if v4 = 0 then
    (some (h3, some (-1)))
  else am_r1 (G 95 [vl (Int32.toInt64 x3), vl (Int32.toInt64 0), vl (Int32.toInt64 1)] h3) fun h5 v6 =>
  if v6 = 0 then
    (some (h5, some (-1)))
  else am_run 0 (fun _ => 0) cM_round G n 29 [some (vr 7 82), some (vi x1), some (vi x2), some (vi x3), some (vi 0), none, none, none, none, none, none, none] h5 := rfl
set_option maxRecDepth 20000 in
theorem qM_round_29 (G : Nat → List am_V → am_H → am_Z) (n : Nat) (x1 : Int32) (x2 : Int32) (x3 : Int32) (x4 : Int32) (u5 : Option am_V) (u6 : Option am_V) (u7 : Option am_V) (u8 : Option am_V) (u9 : Option am_V) (u10 : Option am_V) (u11 : Option am_V) (h : am_H) : am_run 0 (fun _ => 0) cM_round G (n + 1) 29 [some (vr 7 82), some (vi x1), some (vi x2), some (vi x3), some (vi x4), u5, u6, u7, u8, u9, u10, u11] h =
  if x4 < 384 then
    (am_b 384 x4 fun j1 =>
    am_run 0 (fun _ => 0) cM_round G n 29 [some (vr 7 82), some (vi x1), some (vi x2), some (vi x3), some (vi (x4 + 1)), u5, u6, u7, u8, u9, u10, u11] (am_up h 121 j1 1000000))
  else am_b 4 x1 fun j2 =>
  am_b 4 x1 fun j3 =>
  am_b 384 (h 108 j2) fun j4 =>
  am_run 0 (fun _ => 0) cM_round G n 57 [some (vr 7 82), some (vi x1), some (vi x2), some (vi x3), some (vi 1000000), some (vi (-4)), some (vi 0), u7, u8, u9, u10, u11] (am_up h 121 j4 (h 109 j3)) := rfl
set_option maxRecDepth 20000 in
theorem qM_round_57 (G : Nat → List am_V → am_H → am_Z) (n : Nat) (x1 : Int32) (x2 : Int32) (x3 : Int32) (x4 : Int32) (x5 : Int32) (x6 : Int32) (u7 : Option am_V) (u8 : Option am_V) (u9 : Option am_V) (u10 : Option am_V) (u11 : Option am_V) (h : am_H) : am_run 0 (fun _ => 0) cM_round G (n + 1) 57 [some (vr 7 82), some (vi x1), some (vi x2), some (vi x3), some (vi x4), some (vi x5), some (vi x6), u7, u8, u9, u10, u11] h =
  if 10 < x6 then
    (if x5 < 0 then
      (some (h, some (-4)))
    else if x3 = 0 then
      (some (h, some (x4 + 100000)))
    else some (h, some x5))
  else am_r0 (G 147 [vr 7 82, vi x2] h) fun h1 =>
  am_run 0 (fun _ => 0) cM_round G n 66 [some (vr 7 82), some (vi x1), some (vi x2), some (vi x3), some (vi x4), some (vi x5), some (vi x6), some (vi 0), u8, u9, u10, u11] h1 := rfl
set_option maxRecDepth 20000 in
theorem qM_round_66 (G : Nat → List am_V → am_H → am_Z) (n : Nat) (x1 : Int32) (x2 : Int32) (x3 : Int32) (x4 : Int32) (x5 : Int32) (x6 : Int32) (x7 : Int32) (u8 : Option am_V) (u9 : Option am_V) (u10 : Option am_V) (u11 : Option am_V) (h : am_H) : am_run 0 (fun _ => 0) cM_round G (n + 1) 66 [some (vr 7 82), some (vi x1), some (vi x2), some (vi x3), some (vi x4), some (vi x5), some (vi x6), some (vi x7), u8, u9, u10, u11] h =
  if x7 < (h 84 0) then
    (am_b 384 ((6 * x2) + x7) fun j1 =>
    if (h 121 j1) < x4 then
      (if (h 121 j1) < 1000000 then
        (if x5 < 0 then
          (am_run 0 (fun _ => 0) cM_round G n 66 [some (vr 7 82), some (vi x1), some (vi x2), some (vi x3), some (vi (h 121 j1)), some (vi x6), some (vi x6), some (vi (x7 + 1)), some (vi (h 121 j1)), u9, u10, u11] h)
        else am_run 0 (fun _ => 0) cM_round G n 66 [some (vr 7 82), some (vi x1), some (vi x2), some (vi x3), some (vi (h 121 j1)), some (vi x5), some (vi x6), some (vi (x7 + 1)), some (vi (h 121 j1)), u9, u10, u11] h)
      else am_run 0 (fun _ => 0) cM_round G n 66 [some (vr 7 82), some (vi x1), some (vi x2), some (vi x3), some (vi (h 121 j1)), some (vi x5), some (vi x6), some (vi (x7 + 1)), some (vi (h 121 j1)), u9, u10, u11] h)
    else if (h 121 j1) < 1000000 then
      (if x5 < 0 then
        (am_run 0 (fun _ => 0) cM_round G n 66 [some (vr 7 82), some (vi x1), some (vi x2), some (vi x3), some (vi x4), some (vi x6), some (vi x6), some (vi (x7 + 1)), some (vi (h 121 j1)), u9, u10, u11] h)
      else am_run 0 (fun _ => 0) cM_round G n 66 [some (vr 7 82), some (vi x1), some (vi x2), some (vi x3), some (vi x4), some (vi x5), some (vi x6), some (vi (x7 + 1)), some (vi (h 121 j1)), u9, u10, u11] h)
    else am_run 0 (fun _ => 0) cM_round G n 66 [some (vr 7 82), some (vi x1), some (vi x2), some (vi x3), some (vi x4), some (vi x5), some (vi x6), some (vi (x7 + 1)), some (vi (h 121 j1)), u9, u10, u11] h)
  else am_run 0 (fun _ => 0) cM_round G n 102 [some (vr 7 82), some (vi x1), some (vi x2), some (vi x3), some (vi x4), some (vi x5), some (vi x6), some (vi 0), u8, u9, u10, u11] h := rfl
set_option maxRecDepth 20000 in
theorem qM_round_102 (G : Nat → List am_V → am_H → am_Z) (n : Nat) (x1 : Int32) (x2 : Int32) (x3 : Int32) (x4 : Int32) (x5 : Int32) (x6 : Int32) (x7 : Int32) (u8 : Option am_V) (u9 : Option am_V) (u10 : Option am_V) (u11 : Option am_V) (h : am_H) : am_run 0 (fun _ => 0) cM_round G (n + 1) 102 [some (vr 7 82), some (vi x1), some (vi x2), some (vi x3), some (vi x4), some (vi x5), some (vi x6), some (vi x7), u8, u9, u10, u11] h =
  if x7 < 384 then
    (am_b 384 x7 fun j1 =>
    am_run 0 (fun _ => 0) cM_round G n 102 [some (vr 7 82), some (vi x1), some (vi x2), some (vi x3), some (vi x4), some (vi x5), some (vi x6), some (vi (x7 + 1)), u8, u9, u10, u11] (am_up h 122 j1 1000000))
  else am_run 0 (fun _ => 0) cM_round G n 115 [some (vr 7 82), some (vi x1), some (vi x2), some (vi x3), some (vi x4), some (vi x5), some (vi x6), some (vi 0), u8, u9, u10, u11] h := rfl
set_option maxRecDepth 20000 in
theorem qM_round_115 (G : Nat → List am_V → am_H → am_Z) (n : Nat) (x1 : Int32) (x2 : Int32) (x3 : Int32) (x4 : Int32) (x5 : Int32) (x6 : Int32) (x7 : Int32) (u8 : Option am_V) (u9 : Option am_V) (u10 : Option am_V) (u11 : Option am_V) (h : am_H) : am_run 0 (fun _ => 0) cM_round G (n + 1) 115 [some (vr 7 82), some (vi x1), some (vi x2), some (vi x3), some (vi x4), some (vi x5), some (vi x6), some (vi x7), u8, u9, u10, u11] h =
  if x7 < (h 88 0) then
    (am_run 0 (fun _ => 0) cM_round G n 124 [some (vr 7 82), some (vi x1), some (vi x2), some (vi x3), some (vi x4), some (vi x5), some (vi x6), some (vi x7), some (vi 0), u9, u10, u11] h)
  else am_run 0 (fun _ => 0) cM_round G n 189 [some (vr 7 82), some (vi x1), some (vi x2), some (vi x3), some (vi x4), some (vi x5), some (vi x6), some (vi 0), u8, u9, u10, u11] h := rfl
set_option maxRecDepth 20000 in
theorem qM_round_124 (G : Nat → List am_V → am_H → am_Z) (n : Nat) (x1 : Int32) (x2 : Int32) (x3 : Int32) (x4 : Int32) (x5 : Int32) (x6 : Int32) (x7 : Int32) (x8 : Int32) (u9 : Option am_V) (u10 : Option am_V) (u11 : Option am_V) (h : am_H) : am_run 0 (fun _ => 0) cM_round G (n + 1) 124 [some (vr 7 82), some (vi x1), some (vi x2), some (vi x3), some (vi x4), some (vi x5), some (vi x6), some (vi x7), some (vi x8), u9, u10, u11] h =
  if x8 < 384 then
    (am_b 384 x8 fun j1 =>
    if (h 121 j1) < 1000000 then
      (if (x8 / 6) = x2 then
        (am_run 0 (fun _ => 0) cM_round G n 124 [some (vr 7 82), some (vi x1), some (vi x2), some (vi x3), some (vi x4), some (vi x5), some (vi x6), some (vi x7), some (vi (x8 + 1)), some (vi (am_rem x8 6)), u10, u11] h)
      else am_r1 (G 115 [vr 7 82, vi x7, vi (am_rem x8 6)] h) fun h2 v3 =>
      if v3 = 0 then
        (am_run 0 (fun _ => 0) cM_round G n 124 [some (vr 7 82), some (vi x1), some (vi x2), some (vi x3), some (vi x4), some (vi x5), some (vi x6), some (vi x7), some (vi (x8 + 1)), some (vi (am_rem x8 6)), u10, u11] h2)
      else am_r1 (G 117 [vr 7 82, vi x7, vi (am_rem x8 6)] h2) fun h4 v5 =>
      am_b 384 x8 fun j6 =>
      am_r1 (G 142 [vr 7 82, vi x7, vi (am_rem x8 6)] h4) fun h7 v8 =>
      am_b 384 ((x8 - (am_rem x8 6)) + v5) fun j9 =>
      if ((h4 121 j6) + v8) < (h7 122 j9) then
        (am_b 384 ((x8 - (am_rem x8 6)) + v5) fun j10 =>
        am_run 0 (fun _ => 0) cM_round G n 124 [some (vr 7 82), some (vi x1), some (vi x2), some (vi x3), some (vi x4), some (vi x5), some (vi x6), some (vi x7), some (vi (x8 + 1)), some (vi (am_rem x8 6)), some (vi ((x8 - (am_rem x8 6)) + v5)), some (vi ((h4 121 j6) + v8))] (am_up h7 122 j10 ((h4 121 j6) + v8)))
      else am_b 384 ((x8 - (am_rem x8 6)) + v5) fun j11 =>
      am_b 384 ((x8 - (am_rem x8 6)) + v5) fun j12 =>
      am_run 0 (fun _ => 0) cM_round G n 124 [some (vr 7 82), some (vi x1), some (vi x2), some (vi x3), some (vi x4), some (vi x5), some (vi x6), some (vi x7), some (vi (x8 + 1)), some (vi (am_rem x8 6)), some (vi ((x8 - (am_rem x8 6)) + v5)), some (vi ((h4 121 j6) + v8))] (am_up h7 122 j12 (h7 122 j11)))
    else am_run 0 (fun _ => 0) cM_round G n 124 [some (vr 7 82), some (vi x1), some (vi x2), some (vi x3), some (vi x4), some (vi x5), some (vi x6), some (vi x7), some (vi (x8 + 1)), some (vi (am_rem x8 6)), u10, u11] h)
  else am_run 0 (fun _ => 0) cM_round G n 115 [some (vr 7 82), some (vi x1), some (vi x2), some (vi x3), some (vi x4), some (vi x5), some (vi x6), some (vi (x7 + 1)), some (vi x8), u9, u10, u11] h := rfl
set_option maxRecDepth 20000 in
theorem qM_round_189 (G : Nat → List am_V → am_H → am_Z) (n : Nat) (x1 : Int32) (x2 : Int32) (x3 : Int32) (x4 : Int32) (x5 : Int32) (x6 : Int32) (x7 : Int32) (u8 : Option am_V) (u9 : Option am_V) (u10 : Option am_V) (u11 : Option am_V) (h : am_H) : am_run 0 (fun _ => 0) cM_round G (n + 1) 189 [some (vr 7 82), some (vi x1), some (vi x2), some (vi x3), some (vi x4), some (vi x5), some (vi x6), some (vi x7), u8, u9, u10, u11] h =
  if x7 < 384 then
    (am_b 384 x7 fun j1 =>
    am_b 384 x7 fun j2 =>
    am_run 0 (fun _ => 0) cM_round G n 189 [some (vr 7 82), some (vi x1), some (vi x2), some (vi x3), some (vi x4), some (vi x5), some (vi x6), some (vi (x7 + 1)), u8, u9, u10, u11] (am_up h 121 j2 (h 122 j1)))
  else am_run 0 (fun _ => 0) cM_round G n 57 [some (vr 7 82), some (vi x1), some (vi x2), some (vi x3), some (vi x4), some (vi x5), some (vi (x6 + 1)), some (vi x7), u8, u9, u10, u11] h := rfl
set_option maxRecDepth 20000 in
theorem qM_hour_0 (G : Nat → List am_V → am_H → am_Z) (n : Nat) (x1 : Int32) (x2 : Int32) (x3 : Int32) (h : am_H) : am_run 0 (fun _ => 0) cM_hour G (n + 1) 0 [some (vr 7 82), some (vi x1), some (vi x2), some (vi x3), none, none] h =
  am_r1 (G 110 [vr 7 82, vi x1] h) fun h1 v2 =>
  if v2 = 0 then
    (some (h1, some (-1)))
  else am_r1 (G 95 [vl (Int32.toInt64 x2), vl (Int32.toInt64 0), vl (Int32.toInt64 23)] h1) fun h3 v4 =>
  if v4 = 0 then
    (some (h3, some (-1)))
  else am_r1 (G 95 [vl (Int32.toInt64 x3), vl (Int32.toInt64 0), vl (Int32.toInt64 2)] h3) fun h5 v6 =>
  if v6 = 0 then
    (some (h5, some (-1)))
  else if x3 = 0 then
    (if x3 = 0 then
      (am_b 4 x1 fun j7 =>
      am_b 4 x1 fun j8 =>
      am_r1 (G 126 [vi ((12 * x2) - (h5 109 j8)), vi (24 * 12)] h5) fun h9 v10 =>
      some (h9, some (((h5 109 j7) + v10) + 100000)))
    else if x3 = 1 then
      (am_b 4 x1 fun j11 =>
      am_b 12 (h5 108 j11) fun j12 =>
      am_b 4 x1 fun j13 =>
      am_b 4 x1 fun j14 =>
      am_r1 (G 126 [vi (((x2 - (h5 87 j12)) * 12) - (h5 109 j14)), vi (24 * 12)] h5) fun h15 v16 =>
      some (h15, some (((h5 109 j13) + v16) + 100000)))
    else am_b 4 x1 fun j17 =>
    am_b 4 x1 fun j18 =>
    am_r1 (G 126 [vi (x2 - (h5 110 j18)), vi 24] h5) fun h19 v20 =>
    am_b 4 x1 fun j21 =>
    am_b 4 x1 fun j22 =>
    am_r1 (G 126 [vi (((h5 109 j17) + (v20 * 12)) - (h19 109 j22)), vi (24 * 12)] h19) fun h23 v24 =>
    some (h23, some (((h19 109 j21) + v24) + 100000)))
  else am_b 4 x1 fun j25 =>
  am_r1 (G 112 [vr 7 82, vi (h5 108 j25)] h5) fun h26 v27 =>
  if x3 = 0 then
    (am_b 4 x1 fun j28 =>
    am_b 4 x1 fun j29 =>
    am_r1 (G 126 [vi ((12 * x2) - (h26 109 j29)), vi (24 * v27)] h26) fun h30 v31 =>
    some (h30, some (((h26 109 j28) + v31) + 100000)))
  else if x3 = 1 then
    (am_b 4 x1 fun j32 =>
    am_b 12 (h26 108 j32) fun j33 =>
    am_b 4 x1 fun j34 =>
    am_b 4 x1 fun j35 =>
    am_r1 (G 126 [vi (((x2 - (h26 87 j33)) * v27) - (h26 109 j35)), vi (24 * v27)] h26) fun h36 v37 =>
    some (h36, some (((h26 109 j34) + v37) + 100000)))
  else am_b 4 x1 fun j38 =>
  am_b 4 x1 fun j39 =>
  am_r1 (G 126 [vi (x2 - (h26 110 j39)), vi 24] h26) fun h40 v41 =>
  am_b 4 x1 fun j42 =>
  am_b 4 x1 fun j43 =>
  am_r1 (G 126 [vi (((h26 109 j38) + (v41 * v27)) - (h40 109 j43)), vi (24 * v27)] h40) fun h44 v45 =>
  some (h44, some (((h40 109 j42) + v45) + 100000)) := rfl
set_option maxRecDepth 20000 in
theorem qM_agreed_0 (G : Nat → List am_V → am_H → am_Z) (n : Nat) (x1 : Int32) (x2 : Int32) (x3 : Int32) (h : am_H) : am_run 0 (fun _ => 0) cM_agreed G (n + 1) 0 [some (vr 7 82), some (vi x1), some (vi x2), some (vi x3), none, none, none, none, none] h =
  am_r1 (G 110 [vr 7 82, vi x1] h) fun h1 v2 =>
  if v2 = 0 then
    (some (h1, some (-1)))
  else am_r1 (G 110 [vr 7 82, vi x2] h1) fun h3 v4 =>
  if v4 = 0 then
    (some (h3, some (-1)))
  else if x1 = x2 then
    (some (h3, some (-1)))
  else am_r1 (G 95 [vl (Int32.toInt64 x3), vl (Int32.toInt64 0), vl (Int32.toInt64 23)] h3) fun h5 v6 =>
  if v6 = 0 then
    (some (h5, some (-1)))
  else am_b 4 x1 fun j7 =>
  am_r1 (G 112 [vr 7 82, vi (h5 108 j7)] h5) fun h8 v9 =>
  am_b 4 x2 fun j10 =>
  am_r1 (G 112 [vr 7 82, vi (h8 108 j10)] h8) fun h11 v12 =>
  am_b 4 x1 fun j13 =>
  am_b 4 x1 fun j14 =>
  am_r1 (G 126 [vi (x3 - (h11 110 j14)), vi 24] h11) fun h15 v16 =>
  am_b 4 x1 fun j17 =>
  am_r1 (G 112 [vr 7 82, vi (h15 108 j17)] h15) fun h18 v19 =>
  am_b 4 x2 fun j20 =>
  am_b 4 x2 fun j21 =>
  am_r1 (G 126 [vi (x3 - (h18 110 j21)), vi 24] h18) fun h22 v23 =>
  am_b 4 x2 fun j24 =>
  am_r1 (G 112 [vr 7 82, vi (h22 108 j24)] h22) fun h25 v26 =>
  am_run 0 (fun _ => 0) cM_agreed G n 82 [some (vr 7 82), some (vi x1), some (vi x2), some (vi x3), some (vi (24 * v9)), some (vi (24 * v12)), some (vi ((h11 109 j13) + (v16 * v19))), some (vi ((h18 109 j20) + (v23 * v26))), some (vi ((h11 109 j13) + (v16 * v19)))] h25 := rfl
set_option maxRecDepth 20000 in
theorem qM_agreed_82 (G : Nat → List am_V → am_H → am_Z) (n : Nat) (x1 : Int32) (x2 : Int32) (x3 : Int32) (x4 : Int32) (x5 : Int32) (x6 : Int32) (x7 : Int32) (x8 : Int32) (h : am_H) : am_run 0 (fun _ => 0) cM_agreed G (n + 1) 82 [some (vr 7 82), some (vi x1), some (vi x2), some (vi x3), some (vi x4), some (vi x5), some (vi x6), some (vi x7), some (vi x8)] h =
  if 9999 < x8 then
    (some (h, some (-4)))
  else if x8 < x7 then
    (am_run 0 (fun _ => 0) cM_agreed G n 82 [some (vr 7 82), some (vi x1), some (vi x2), some (vi x3), some (vi x4), some (vi x5), some (vi x6), some (vi x7), some (vi (x8 + x4))] h)
  else if x5 = 0 then none else
  if (am_rem (x8 - x7) x5) = 0 then
    (some (h, some (x8 + 100000)))
  else am_run 0 (fun _ => 0) cM_agreed G n 82 [some (vr 7 82), some (vi x1), some (vi x2), some (vi x3), some (vi x4), some (vi x5), some (vi x6), some (vi x7), some (vi (x8 + x4))] h := rfl
set_option maxRecDepth 20000 in
theorem qM_shelf_0 (G : Nat → List am_V → am_H → am_Z) (n : Nat) (x1 : Int32) (x2 : Int32) (h : am_H) : am_run 0 (fun _ => 0) cM_shelf G (n + 1) 0 [some (vr 7 82), some (vi x1), some (vi x2), none, none, none, none] h =
  am_r1 (G 111 [vr 7 82, vi x1] h) fun h1 v2 =>
  if v2 = 0 then
    (some (h1, some (-1)))
  else am_r1 (G 95 [vl (Int32.toInt64 x2), vl (Int32.toInt64 1), vl (Int32.toInt64 99)] h1) fun h3 v4 =>
  if v4 = 0 then
    (some (h3, some (-1)))
  else am_run 0 (fun _ => 0) cM_shelf G n 19 [some (vr 7 82), some (vi x1), some (vi x2), some (vi 0), some (vi (-4)), some (vi 0), none] h3 := rfl
set_option maxRecDepth 20000 in
theorem qM_shelf_19 (G : Nat → List am_V → am_H → am_Z) (n : Nat) (x1 : Int32) (x2 : Int32) (x3 : Int32) (x4 : Int32) (x5 : Int32) (u6 : Option am_V) (h : am_H) : am_run 0 (fun _ => 0) cM_shelf G (n + 1) 19 [some (vr 7 82), some (vi x1), some (vi x2), some (vi x3), some (vi x4), some (vi x5), u6] h =
  if x5 < (h 84 0) then
    (am_b 5 x1 fun j1 =>
    am_r1 (G 113 [vr 7 82, vi x5, vi (12 * x2)] h) fun h2 v3 =>
    am_r1 (G 132 [vr 7 82, vi x1, vi ((h 114 j1) + v3)] h2) fun h4 v5 =>
    if x4 < v5 then
      (if x4 < v5 then
        (am_run 0 (fun _ => 0) cM_shelf G n 19 [some (vr 7 82), some (vi x1), some (vi x2), some (vi x5), some (vi v5), some (vi (x5 + 1)), some (vi v5)] h4)
      else am_run 0 (fun _ => 0) cM_shelf G n 19 [some (vr 7 82), some (vi x1), some (vi x2), some (vi x5), some (vi x4), some (vi (x5 + 1)), some (vi v5)] h4)
    else if x4 < v5 then
      (am_run 0 (fun _ => 0) cM_shelf G n 19 [some (vr 7 82), some (vi x1), some (vi x2), some (vi x3), some (vi v5), some (vi (x5 + 1)), some (vi v5)] h4)
    else am_run 0 (fun _ => 0) cM_shelf G n 19 [some (vr 7 82), some (vi x1), some (vi x2), some (vi x3), some (vi x4), some (vi (x5 + 1)), some (vi v5)] h4)
  else some (h, some x3) := rfl
set_option maxRecDepth 20000 in
theorem qM_seen_0 (G : Nat → List am_V → am_H → am_Z) (n : Nat) (x1 : Int32) (x2 : Int32) (x3 : Int32) (h : am_H) : am_run 0 (fun _ => 0) cM_seen G (n + 1) 0 [some (vr 7 82), some (vi x1), some (vi x2), some (vi x3)] h =
  am_r1 (G 108 [vr 7 82, vi x1] h) fun h1 v2 =>
  if v2 = 0 then
    (some (h1, some (-1)))
  else am_r1 (G 95 [vl (Int32.toInt64 x2), vl (Int32.toInt64 1), vl (Int32.toInt64 99)] h1) fun h3 v4 =>
  if v4 = 0 then
    (some (h3, some (-1)))
  else am_r1 (G 95 [vl (Int32.toInt64 x3), vl (Int32.toInt64 0), vl (Int32.toInt64 400)] h3) fun h5 v6 =>
  if v6 = 0 then
    (some (h5, some (-1)))
  else if (h5 82 23) = 8 then
    (some (h5, some (-3)))
  else am_b 8 (h5 82 23) fun j7 =>
  am_b 8 (h5 82 23) fun j8 =>
  am_b 8 (h5 82 23) fun j9 =>
  some (am_up (am_up (am_up (am_up h5 104 j7 x1) 105 j8 x2) 106 j9 x3) 82 23 ((h5 82 23) + 1), some ((h5 82 23) + 1)) := rfl
set_option maxRecDepth 20000 in
theorem qM_forget_0 (G : Nat → List am_V → am_H → am_Z) (n : Nat)  (h : am_H) : am_run 0 (fun _ => 0) cM_forget G (n + 1) 0 [some (vr 7 82), none] h =
  some (am_up h 82 23 0, some (h 82 23)) := rfl
set_option maxRecDepth 20000 in
theorem qM_onBy_0 (G : Nat → List am_V → am_H → am_Z) (n : Nat) (x0 : Int32) (x1 : Int32) (h : am_H) : am_run 0 (fun _ => 0) cM_onBy G (n + 1) 0 [some (vi x0), some (vi x1)] h =
  if (am_rem x0 4) + 1 = 0 then none else
  some (h, some ((x1 * ((x0 / 4) + 1)) / ((am_rem x0 4) + 1))) := rfl
set_option maxRecDepth 20000 in
theorem qM_pacesOf_0 (G : Nat → List am_V → am_H → am_Z) (n : Nat) (x1 : Int32) (h : am_H) : am_run 0 (fun _ => 0) cM_pacesOf G (n + 1) 0 [some (vr 7 82), some (vi x1), none, none, none, none] h =
  am_run 0 (fun _ => 0) cM_pacesOf G n 5 [some (vr 7 82), some (vi x1), some (vi 0), some (vi 0), none, none] h := rfl
set_option maxRecDepth 20000 in
theorem qM_pacesOf_5 (G : Nat → List am_V → am_H → am_Z) (n : Nat) (x1 : Int32) (x2 : Int32) (x3 : Int32) (u4 : Option am_V) (u5 : Option am_V) (h : am_H) : am_run 0 (fun _ => 0) cM_pacesOf G (n + 1) 5 [some (vr 7 82), some (vi x1), some (vi x2), some (vi x3), u4, u5] h =
  if x3 < 16 then
    (am_run 0 (fun _ => 0) cM_pacesOf G n 13 [some (vr 7 82), some (vi x1), some (vi x2), some (vi x3), some (vi 1), some (vi 0)] h)
  else some (h, some x2) := rfl
set_option maxRecDepth 20000 in
theorem qM_pacesOf_13 (G : Nat → List am_V → am_H → am_Z) (n : Nat) (x1 : Int32) (x2 : Int32) (x3 : Int32) (x4 : Int32) (x5 : Int32) (h : am_H) : am_run 0 (fun _ => 0) cM_pacesOf G (n + 1) 13 [some (vr 7 82), some (vi x1), some (vi x2), some (vi x3), some (vi x4), some (vi x5)] h =
  if x5 < (h 82 23) then
    (if x4 = 0 then
      (am_run 0 (fun _ => 0) cM_pacesOf G n 13 [some (vr 7 82), some (vi x1), some (vi x2), some (vi x3), some (vi 0), some (vi (x5 + 1))] h)
    else am_b 8 x5 fun j1 =>
    if (h 104 j1) = x1 then
      (am_b 8 x5 fun j2 =>
      am_r1 (G 154 [vi x3, vi (h 105 j2)] h) fun h3 v4 =>
      am_b 8 x5 fun j5 =>
      if v4 = (h3 106 j5) then
        (am_run 0 (fun _ => 0) cM_pacesOf G n 13 [some (vr 7 82), some (vi x1), some (vi x2), some (vi x3), some (vi 1), some (vi (x5 + 1))] h3)
      else am_run 0 (fun _ => 0) cM_pacesOf G n 13 [some (vr 7 82), some (vi x1), some (vi x2), some (vi x3), some (vi 0), some (vi (x5 + 1))] h3)
    else am_run 0 (fun _ => 0) cM_pacesOf G n 13 [some (vr 7 82), some (vi x1), some (vi x2), some (vi x3), some (vi 1), some (vi (x5 + 1))] h)
  else if x4 = 0 then
    (am_run 0 (fun _ => 0) cM_pacesOf G n 5 [some (vr 7 82), some (vi x1), some (vi (x2 ||| 0)), some (vi (x3 + 1)), some (vi x4), some (vi x5)] h)
  else am_run 0 (fun _ => 0) cM_pacesOf G n 5 [some (vr 7 82), some (vi x1), some (vi (x2 ||| ((1 : Int32) <<< (x3 &&& 31)))), some (vi (x3 + 1)), some (vi x4), some (vi x5)] h := rfl
set_option maxRecDepth 20000 in
theorem qM_paces_0 (G : Nat → List am_V → am_H → am_Z) (n : Nat) (x1 : Int32) (h : am_H) : am_run 0 (fun _ => 0) cM_paces G (n + 1) 0 [some (vr 7 82), some (vi x1)] h =
  am_r1 (G 108 [vr 7 82, vi x1] h) fun h1 v2 =>
  if v2 = 0 then
    (some (h1, some (-1)))
  else am_r1 (G 155 [vr 7 82, vi x1] h1) fun h3 v4 =>
  some (h3, some v4) := rfl
set_option maxRecDepth 20000 in
theorem qM_look_0 (G : Nat → List am_V → am_H → am_Z) (n : Nat) (x1 : Int32) (x2 : Int32) (h : am_H) : am_run 0 (fun _ => 0) cM_look G (n + 1) 0 [some (vr 7 82), some (vi x1), some (vi x2), none, none, none, none, none, none, none, none] h =
  am_r1 (G 108 [vr 7 82, vi x1] h) fun h1 v2 =>
  if v2 = 0 then
    (some (h1, some (-1)))
  else am_r1 (G 95 [vl (Int32.toInt64 x2), vl (Int32.toInt64 0), vl (Int32.toInt64 1)] h1) fun h3 v4 =>
  if v4 = 0 then
    (some (h3, some (-1)))
  else am_r1 (G 155 [vr 7 82, vi x1] h3) fun h5 v6 =>
  am_run 0 (fun _ => 0) cM_look G n 23 [some (vr 7 82), some (vi x1), some (vi x2), some (vi v6), some (vi (-4)), some (vi 0), some (vi 1), none, none, none, none] h5 := rfl
set_option maxRecDepth 20000 in
theorem qM_look_23 (G : Nat → List am_V → am_H → am_Z) (n : Nat) (x1 : Int32) (x2 : Int32) (x3 : Int32) (x4 : Int32) (x5 : Int32) (x6 : Int32) (u7 : Option am_V) (u8 : Option am_V) (u9 : Option am_V) (u10 : Option am_V) (h : am_H) : am_run 0 (fun _ => 0) cM_look G (n + 1) 23 [some (vr 7 82), some (vi x1), some (vi x2), some (vi x3), some (vi x4), some (vi x5), some (vi x6), u7, u8, u9, u10] h =
  if 24 < x6 then
    (if x4 < 0 then
      (some (h, some x4))
    else if x2 = 0 then
      (some (h, some x4))
    else some (h, some x5))
  else if x3 = 0 then
    (if x4 < 0 then
      (some (h, some x4))
    else if x2 = 0 then
      (some (h, some x4))
    else some (h, some x5))
  else am_run 0 (fun _ => 0) cM_look G n 33 [some (vr 7 82), some (vi x1), some (vi x2), some (vi x3), some (vi x4), some (vi x5), some (vi x6), some (vi 0), some (vi 0), u9, u10] h := rfl
set_option maxRecDepth 20000 in
theorem qM_look_33 (G : Nat → List am_V → am_H → am_Z) (n : Nat) (x1 : Int32) (x2 : Int32) (x3 : Int32) (x4 : Int32) (x5 : Int32) (x6 : Int32) (x7 : Int32) (x8 : Int32) (u9 : Option am_V) (u10 : Option am_V) (h : am_H) : am_run 0 (fun _ => 0) cM_look G (n + 1) 33 [some (vr 7 82), some (vi x1), some (vi x2), some (vi x3), some (vi x4), some (vi x5), some (vi x6), some (vi x7), some (vi x8), u9, u10] h =
  if x8 < 16 then
    (am_run 0 (fun _ => 0) cM_look G n 41 [some (vr 7 82), some (vi x1), some (vi x2), some (vi x3), some (vi x4), some (vi x5), some (vi x6), some (vi x7), some (vi x8), some (vi 0), some (vi 0)] h)
  else if x4 < 0 then
    (if x6 = x6 then
      (am_run 0 (fun _ => 0) cM_look G n 23 [some (vr 7 82), some (vi x1), some (vi x2), some (vi x3), some (vi x6), some (vi x7), some (vi (x6 + 1)), some (vi x7), some (vi x8), u9, u10] h)
    else am_run 0 (fun _ => 0) cM_look G n 23 [some (vr 7 82), some (vi x1), some (vi x2), some (vi x3), some (vi x6), some (vi x5), some (vi (x6 + 1)), some (vi x7), some (vi x8), u9, u10] h)
  else if x7 < x5 then
    (if x6 = x6 then
      (am_run 0 (fun _ => 0) cM_look G n 23 [some (vr 7 82), some (vi x1), some (vi x2), some (vi x3), some (vi x6), some (vi x7), some (vi (x6 + 1)), some (vi x7), some (vi x8), u9, u10] h)
    else am_run 0 (fun _ => 0) cM_look G n 23 [some (vr 7 82), some (vi x1), some (vi x2), some (vi x3), some (vi x6), some (vi x5), some (vi (x6 + 1)), some (vi x7), some (vi x8), u9, u10] h)
  else if x4 = x6 then
    (am_run 0 (fun _ => 0) cM_look G n 23 [some (vr 7 82), some (vi x1), some (vi x2), some (vi x3), some (vi x4), some (vi x7), some (vi (x6 + 1)), some (vi x7), some (vi x8), u9, u10] h)
  else am_run 0 (fun _ => 0) cM_look G n 23 [some (vr 7 82), some (vi x1), some (vi x2), some (vi x3), some (vi x4), some (vi x5), some (vi (x6 + 1)), some (vi x7), some (vi x8), u9, u10] h := rfl
set_option maxRecDepth 20000 in
theorem qM_look_41 (G : Nat → List am_V → am_H → am_Z) (n : Nat) (x1 : Int32) (x2 : Int32) (x3 : Int32) (x4 : Int32) (x5 : Int32) (x6 : Int32) (x7 : Int32) (x8 : Int32) (x9 : Int32) (x10 : Int32) (h : am_H) : am_run 0 (fun _ => 0) cM_look G (n + 1) 41 [some (vr 7 82), some (vi x1), some (vi x2), some (vi x3), some (vi x4), some (vi x5), some (vi x6), some (vi x7), some (vi x8), some (vi x9), some (vi x10)] h =
  if x10 < 16 then
    (am_r1 (G 96 [vi x3, vi x8] h) fun h1 v2 =>
    if v2 = 0 then
      (am_run 0 (fun _ => 0) cM_look G n 41 [some (vr 7 82), some (vi x1), some (vi x2), some (vi x3), some (vi x4), some (vi x5), some (vi x6), some (vi x7), some (vi x8), some (vi (x9 + 0)), some (vi (x10 + 1))] h1)
    else am_r1 (G 96 [vi x3, vi x10] h1) fun h3 v4 =>
    if v4 = 0 then
      (am_run 0 (fun _ => 0) cM_look G n 41 [some (vr 7 82), some (vi x1), some (vi x2), some (vi x3), some (vi x4), some (vi x5), some (vi x6), some (vi x7), some (vi x8), some (vi (x9 + 0)), some (vi (x10 + 1))] h3)
    else am_r1 (G 154 [vi x8, vi x6] h3) fun h5 v6 =>
    am_r1 (G 154 [vi x10, vi x6] h5) fun h7 v8 =>
    if v6 = v8 then
      (am_run 0 (fun _ => 0) cM_look G n 41 [some (vr 7 82), some (vi x1), some (vi x2), some (vi x3), some (vi x4), some (vi x5), some (vi x6), some (vi x7), some (vi x8), some (vi (x9 + 1)), some (vi (x10 + 1))] h7)
    else am_run 0 (fun _ => 0) cM_look G n 41 [some (vr 7 82), some (vi x1), some (vi x2), some (vi x3), some (vi x4), some (vi x5), some (vi x6), some (vi x7), some (vi x8), some (vi (x9 + 0)), some (vi (x10 + 1))] h7)
  else if x7 < x9 then
    (am_run 0 (fun _ => 0) cM_look G n 33 [some (vr 7 82), some (vi x1), some (vi x2), some (vi x3), some (vi x4), some (vi x5), some (vi x6), some (vi x9), some (vi (x8 + 1)), some (vi x9), some (vi x10)] h)
  else am_run 0 (fun _ => 0) cM_look G n 33 [some (vr 7 82), some (vi x1), some (vi x2), some (vi x3), some (vi x4), some (vi x5), some (vi x6), some (vi x7), some (vi (x8 + 1)), some (vi x9), some (vi x10)] h := rfl
set_option maxRecDepth 20000 in
theorem qM_mended_0 (G : Nat → List am_V → am_H → am_Z) (n : Nat) (x1 : Int32) (h : am_H) : am_run 0 (fun _ => 0) cM_mended G (n + 1) 0 [some (vr 7 82), some (vi x1), none, none, none, none] h =
  am_r1 (G 108 [vr 7 82, vi x1] h) fun h1 v2 =>
  if v2 = 0 then
    (some (h1, some (-1)))
  else am_run 0 (fun _ => 0) cM_mended G n 9 [some (vr 7 82), some (vi x1), some (vi 0), none, none, none] h1 := rfl
set_option maxRecDepth 20000 in
theorem qM_mended_9 (G : Nat → List am_V → am_H → am_Z) (n : Nat) (x1 : Int32) (x2 : Int32) (u3 : Option am_V) (u4 : Option am_V) (u5 : Option am_V) (h : am_H) : am_run 0 (fun _ => 0) cM_mended G (n + 1) 9 [some (vr 7 82), some (vi x1), some (vi x2), u3, u4, u5] h =
  if x2 < 4 then
    (am_b 4 x2 fun j1 =>
    am_b 4 x2 fun j2 =>
    am_run 0 (fun _ => 0) cM_mended G n 9 [some (vr 7 82), some (vi x1), some (vi (x2 + 1)), u3, u4, u5] (am_up h 123 j2 (h 109 j1)))
  else am_b 12 x1 fun j3 =>
  am_b 12 x1 fun j4 =>
  am_b 12 x1 fun j5 =>
  am_b 12 x1 fun j6 =>
  am_r0 (G 123 [vr 7 82] (am_up (am_up h 85 j5 1) 86 j6 1)) fun h7 =>
  am_run 0 (fun _ => 0) cM_mended G n 49 [some (vr 7 82), some (vi x1), some (vi (h 85 j3)), some (vi (h 86 j4)), some (vi 0), some (vi 0)] h7 := rfl
set_option maxRecDepth 20000 in
theorem qM_mended_49 (G : Nat → List am_V → am_H → am_Z) (n : Nat) (x1 : Int32) (x2 : Int32) (x3 : Int32) (x4 : Int32) (x5 : Int32) (h : am_H) : am_run 0 (fun _ => 0) cM_mended G (n + 1) 49 [some (vr 7 82), some (vi x1), some (vi x2), some (vi x3), some (vi x4), some (vi x5)] h =
  if x5 < (h 92 0) then
    (am_b 4 x5 fun j1 =>
    am_b 4 x5 fun j2 =>
    if (h 109 j1) = (h 123 j2) then
      (am_run 0 (fun _ => 0) cM_mended G n 49 [some (vr 7 82), some (vi x1), some (vi x2), some (vi x3), some (vi (x4 ||| 0)), some (vi (x5 + 1))] h)
    else am_run 0 (fun _ => 0) cM_mended G n 49 [some (vr 7 82), some (vi x1), some (vi x2), some (vi x3), some (vi (x4 ||| ((1 : Int32) <<< (x5 &&& 31)))), some (vi (x5 + 1))] h)
  else am_b 12 x1 fun j3 =>
  am_b 12 x1 fun j4 =>
  am_r0 (G 123 [vr 7 82] (am_up (am_up h 85 j3 x2) 86 j4 x3)) fun h5 =>
  some (h5, some x4) := rfl
set_option maxRecDepth 20000 in
theorem qM_day_0 (G : Nat → List am_V → am_H → am_Z) (n : Nat) (x1 : Int32) (x2 : Int32) (x3 : Int32) (h : am_H) : am_run 0 (fun _ => 0) cM_day G (n + 1) 0 [some (vr 7 82), some (vi x1), some (vi x2), some (vi x3), none, none, none, none, none, none, none] h =
  am_r1 (G 95 [vl (Int32.toInt64 x1), vl (Int32.toInt64 0), vl (Int32.toInt64 9999)] h) fun h1 v2 =>
  if v2 = 0 then
    (some (h1, some (-1)))
  else am_r1 (G 110 [vr 7 82, vi x2] h1) fun h3 v4 =>
  if v4 = 0 then
    (some (h3, some (-1)))
  else am_r1 (G 95 [vl (Int32.toInt64 x3), vl (Int32.toInt64 0), vl (Int32.toInt64 1)] h3) fun h5 v6 =>
  if v6 = 0 then
    (some (h5, some (-1)))
  else am_b 4 x2 fun j7 =>
  am_b 4 x2 fun j8 =>
  am_run 0 (fun _ => 0) cM_day G n 31 [some (vr 7 82), some (vi x1), some (vi x2), some (vi x3), some (vi (h5 108 j7)), some (vi (h5 109 j8)), some (vi 0), none, none, none, none] h5 := rfl
set_option maxRecDepth 20000 in
theorem qM_day_31 (G : Nat → List am_V → am_H → am_Z) (n : Nat) (x1 : Int32) (x2 : Int32) (x3 : Int32) (x4 : Int32) (x5 : Int32) (x6 : Int32) (u7 : Option am_V) (u8 : Option am_V) (u9 : Option am_V) (u10 : Option am_V) (h : am_H) : am_run 0 (fun _ => 0) cM_day G (n + 1) 31 [some (vr 7 82), some (vi x1), some (vi x2), some (vi x3), some (vi x4), some (vi x5), some (vi x6), u7, u8, u9, u10] h =
  if x6 < 12 then
    (if Int32.toInt64 65521 = 0 then none else
    am_run 0 (fun _ => 0) cM_day G n 54 [some (vr 7 82), some (vi x1), some (vi x2), some (vi x3), some (vi x4), some (vi x5), some (vi x6), some (vl ((((Int32.toInt64 7919) * (Int32.toInt64 x1)) + ((Int32.toInt64 6151) * (Int32.toInt64 x6))) + (Int32.toInt64 1))), none, some (vi (Int64.toInt32 (am_reml (((((Int32.toInt64 7919) * (Int32.toInt64 x1)) + ((Int32.toInt64 6151) * (Int32.toInt64 x6))) + (Int32.toInt64 1)) * ((((Int32.toInt64 7919) * (Int32.toInt64 x1)) + ((Int32.toInt64 6151) * (Int32.toInt64 x6))) + (Int32.toInt64 1))) (Int32.toInt64 65521)))), u10] h)
  else if x3 = 0 then
    (some (h, some (x5 + 100000)))
  else some (h, some x4) := rfl
set_option maxRecDepth 20000 in
theorem qM_day_54 (G : Nat → List am_V → am_H → am_Z) (n : Nat) (x1 : Int32) (x2 : Int32) (x3 : Int32) (x4 : Int32) (x5 : Int32) (x6 : Int32) (y7 : Int64) (u8 : Option am_V) (x9 : Int32) (u10 : Option am_V) (h : am_H) : am_run 0 (fun _ => 0) cM_day G (n + 1) 54 [some (vr 7 82), some (vi x1), some (vi x2), some (vi x3), some (vi x4), some (vi x5), some (vi x6), some (vl y7), u8, some (vi x9), u10] h =
  if (am_rem x9 3) = 0 then
    (am_r1 (G 112 [vr 7 82, vi x4] h) fun h1 v2 =>
    am_run 0 (fun _ => 0) cM_day G n 31 [some (vr 7 82), some (vi x1), some (vi x2), some (vi x3), some (vi x4), some (vi (x5 + (((am_rem (x9 / 4) 3) + 1) * v2))), some (vi (x6 + 1)), some (vl y7), u8, some (vi x9), u10] h1)
  else if 0 < (h 88 0) then
    (if h 88 0 = 0 then none else
    am_r1 (G 115 [vr 7 82, vi (am_rem (x9 / 8) (h 88 0)), vi x4] h) fun h3 v4 =>
    if v4 = 0 then
      (am_run 0 (fun _ => 0) cM_day G n 31 [some (vr 7 82), some (vi x1), some (vi x2), some (vi x3), some (vi x4), some (vi x5), some (vi (x6 + 1)), some (vl y7), u8, some (vi x9), u10] h3)
    else if h3 88 0 = 0 then none else
    am_r1 (G 142 [vr 7 82, vi (am_rem (x9 / 8) (h3 88 0)), vi x4] h3) fun h5 v6 =>
    am_r1 (G 117 [vr 7 82, vi (am_rem (x9 / 8) (h3 88 0)), vi x4] h5) fun h7 v8 =>
    am_run 0 (fun _ => 0) cM_day G n 31 [some (vr 7 82), some (vi x1), some (vi x2), some (vi x3), some (vi v8), some (vi (x5 + v6)), some (vi (x6 + 1)), some (vl y7), u8, some (vi x9), some (vi (am_rem (x9 / 8) (h3 88 0)))] h7)
  else am_run 0 (fun _ => 0) cM_day G n 31 [some (vr 7 82), some (vi x1), some (vi x2), some (vi x3), some (vi x4), some (vi x5), some (vi (x6 + 1)), some (vl y7), u8, some (vi x9), u10] h := rfl
set_option maxRecDepth 20000 in
theorem qM_copy_0 (G : Nat → List am_V → am_H → am_Z) (n : Nat) (x1 : Int32) (x2 : Int32) (h : am_H) : am_run 0 (fun _ => 0) cM_copy G (n + 1) 0 [some (vr 7 82), some (vi x1), some (vi x2), none] h =
  am_b 3 x1 fun j1 =>
  am_b 3 x2 fun j2 =>
  am_run 0 (fun _ => 0) cM_copy G n 11 [some (vr 7 82), some (vi x1), some (vi x2), some (vi 0)] (am_up h 100 j2 (h 100 j1)) := rfl
set_option maxRecDepth 20000 in
theorem qM_copy_11 (G : Nat → List am_V → am_H → am_Z) (n : Nat) (x1 : Int32) (x2 : Int32) (x3 : Int32) (h : am_H) : am_run 0 (fun _ => 0) cM_copy G (n + 1) 11 [some (vr 7 82), some (vi x1), some (vi x2), some (vi x3)] h =
  if x3 < 40 then
    (am_b 120 ((40 * x1) + x3) fun j1 =>
    am_b 120 ((40 * x2) + x3) fun j2 =>
    am_b 120 ((40 * x1) + x3) fun j3 =>
    am_b 120 ((40 * x2) + x3) fun j4 =>
    am_b 120 ((40 * x1) + x3) fun j5 =>
    am_b 120 ((40 * x2) + x3) fun j6 =>
    am_run 0 (fun _ => 0) cM_copy G n 11 [some (vr 7 82), some (vi x1), some (vi x2), some (vi (x3 + 1))] (am_up (am_up (am_up h 101 j2 (h 101 j1)) 102 j4 (h 102 j3)) 103 j6 (h 103 j5)))
  else some (h, none) := rfl
set_option maxRecDepth 20000 in
theorem qM_keep_0 (G : Nat → List am_V → am_H → am_Z) (n : Nat)  (h : am_H) : am_run 0 (fun _ => 0) cM_keep G (n + 1) 0 [some (vr 7 82)] h =
  if (h 82 22) = 2 then
    (some (h, some (-3)))
  else am_r0 (G 160 [vr 7 82, vi 0, vi ((h 82 22) + 1)] (am_up h 82 22 ((h 82 22) + 1))) fun h1 =>
  some (h1, some (h1 82 22)) := rfl
set_option maxRecDepth 20000 in
theorem qM_back_0 (G : Nat → List am_V → am_H → am_Z) (n : Nat)  (h : am_H) : am_run 0 (fun _ => 0) cM_back G (n + 1) 0 [some (vr 7 82)] h =
  if (h 82 22) = 0 then
    (some (h, some (-2)))
  else am_r0 (G 160 [vr 7 82, vi (h 82 22), vi 0] h) fun h1 =>
  am_r0 (G 123 [vr 7 82] (am_up h1 82 22 ((h1 82 22) - 1))) fun h2 =>
  some (h2, some (h2 82 22)) := rfl
set_option maxRecDepth 20000 in
theorem qM_count_0 (G : Nat → List am_V → am_H → am_Z) (n : Nat) (x1 : Int32) (h : am_H) : am_run 0 (fun _ => 0) cM_count G (n + 1) 0 [some (vr 7 82), some (vi x1)] h =
  if x1 = nI 0 then
    (some (h, some (h 84 0)))
  else if x1 = nI 1 then
    (some (h, some (h 88 0)))
  else if x1 = nI 2 then
    (some (h, some (h 92 0)))
  else if x1 = nI 3 then
    (some (h, some (h 95 0)))
  else if x1 = nI 4 then
    (some (h, some (h 100 0)))
  else if x1 = nI 5 then
    (some (h, some (h 82 23)))
  else if x1 = nI 6 then
    (some (h, some (h 82 22)))
  else if x1 = nI 7 then
    (some (h, some (h 82 0)))
  else if x1 = nI 8 then
    (some (h, some (h 99 0)))
  else some (h, some (-1)) := rfl
end
section
/-! CALLS as equations, the class; by program -/
theorem am_g_eq (d z : Nat) (as : List am_V) (h : am_H) : am_g (d + 1) z as h = if (am_mt z).2.2.1 < am_cats as then none else am_run 0 (fun _ => 0) (am_ts z) (am_g d) 1000000 0 (am_ent as (am_mt z).2.2.1) h := rfl
theorem am_g_run {d z nL : Nat} {tb : List am_W} {as : List am_V} {h : am_H} {ls : am_L} (hz : am_lkE am_EL z = ((am_lkE am_EL z).1, tb)) (hm : (am_mt z).2.2.1 = nL) (hc : am_cats as ≤ nL) (hl : am_ent as nL = ls) : am_g (d + 1) z as h = am_run 0 (fun _ => 0) tb (am_g d) (999999 + 1) 0 ls h := by
  rw [am_g_eq, hm, if_neg (by omega), hl]
  have : am_ts z = tb := by unfold am_ts; rw [hz]
  rw [this]
def rA_add (d n i : Nat) (ls : am_L) (h : am_H) : am_Z := am_run 0 (fun _ => 0) cA_add (am_g d) n i ls h
theorem gA_add (d : Nat) (a0 : Nat) (x1 : Int32) (x2 : Int32) (x3 : Int32) (h : am_H) : am_g (d + 1) 0 [vr 0 a0, vi x1, vi x2, vi x3] h =
  if (h a0 3) < 40 then
    (am_b 40 (h a0 3) fun j1 =>
    am_b 40 ((am_up h (a0 + 1) j1 x1) a0 3) fun j2 =>
    am_b 40 ((am_up (am_up h (a0 + 1) j1 x1) (a0 + 2) j2 x2) a0 3) fun j3 =>
    some (am_up (am_up (am_up (am_up h (a0 + 1) j1 x1) (a0 + 2) j2 x2) (a0 + 3) j3 x3) a0 3 (((am_up (am_up (am_up h (a0 + 1) j1 x1) (a0 + 2) j2 x2) (a0 + 3) j3 x3) a0 3) + 1), some 1))
  else some (h, some 0) := (am_g_run (tb := cA_add) rfl rfl (Nat.le_of_ble_eq_true rfl) rfl).trans (qA_add_0 (am_g d) 999999 a0 x1 x2 x3 h)
def rA_copy (d n i : Nat) (ls : am_L) (h : am_H) : am_Z := am_run 0 (fun _ => 0) cA_copy (am_g d) n i ls h
theorem gA_copy (d : Nat) (a0 : Nat) (a1 : Nat) (h : am_H) : am_g (d + 1) 1 [vr 0 a0, vr 0 a1] h =
  if (0 : Int32) < 0 ∨ (0 : Int32) < 0 ∨ ((am_up h a0 3 (h a1 3)) a0 3) < 0 ∨ 40 < (0 : Int32).toNatClampNeg + Int32.toNatClampNeg ((am_up h a0 3 (h a1 3)) a0 3) ∨ 40 < (0 : Int32).toNatClampNeg + Int32.toNatClampNeg ((am_up h a0 3 (h a1 3)) a0 3) then none else
  if (0 : Int32) < 0 ∨ (0 : Int32) < 0 ∨ ((va_up (am_up h a0 3 (h a1 3)) (a0 + 1) (va_cpy ((am_up h a0 3 (h a1 3)) (a1 + 1)) ((am_up h a0 3 (h a1 3)) (a0 + 1)) (0 : Int32).toNatClampNeg (0 : Int32).toNatClampNeg (Int32.toNatClampNeg ((am_up h a0 3 (h a1 3)) a0 3)))) a0 3) < 0 ∨ 40 < (0 : Int32).toNatClampNeg + Int32.toNatClampNeg ((va_up (am_up h a0 3 (h a1 3)) (a0 + 1) (va_cpy ((am_up h a0 3 (h a1 3)) (a1 + 1)) ((am_up h a0 3 (h a1 3)) (a0 + 1)) (0 : Int32).toNatClampNeg (0 : Int32).toNatClampNeg (Int32.toNatClampNeg ((am_up h a0 3 (h a1 3)) a0 3)))) a0 3) ∨ 40 < (0 : Int32).toNatClampNeg + Int32.toNatClampNeg ((va_up (am_up h a0 3 (h a1 3)) (a0 + 1) (va_cpy ((am_up h a0 3 (h a1 3)) (a1 + 1)) ((am_up h a0 3 (h a1 3)) (a0 + 1)) (0 : Int32).toNatClampNeg (0 : Int32).toNatClampNeg (Int32.toNatClampNeg ((am_up h a0 3 (h a1 3)) a0 3)))) a0 3) then none else
  if (0 : Int32) < 0 ∨ (0 : Int32) < 0 ∨ ((va_up (va_up (am_up h a0 3 (h a1 3)) (a0 + 1) (va_cpy ((am_up h a0 3 (h a1 3)) (a1 + 1)) ((am_up h a0 3 (h a1 3)) (a0 + 1)) (0 : Int32).toNatClampNeg (0 : Int32).toNatClampNeg (Int32.toNatClampNeg ((am_up h a0 3 (h a1 3)) a0 3)))) (a0 + 2) (va_cpy ((va_up (am_up h a0 3 (h a1 3)) (a0 + 1) (va_cpy ((am_up h a0 3 (h a1 3)) (a1 + 1)) ((am_up h a0 3 (h a1 3)) (a0 + 1)) (0 : Int32).toNatClampNeg (0 : Int32).toNatClampNeg (Int32.toNatClampNeg ((am_up h a0 3 (h a1 3)) a0 3)))) (a1 + 2)) ((va_up (am_up h a0 3 (h a1 3)) (a0 + 1) (va_cpy ((am_up h a0 3 (h a1 3)) (a1 + 1)) ((am_up h a0 3 (h a1 3)) (a0 + 1)) (0 : Int32).toNatClampNeg (0 : Int32).toNatClampNeg (Int32.toNatClampNeg ((am_up h a0 3 (h a1 3)) a0 3)))) (a0 + 2)) (0 : Int32).toNatClampNeg (0 : Int32).toNatClampNeg (Int32.toNatClampNeg ((va_up (am_up h a0 3 (h a1 3)) (a0 + 1) (va_cpy ((am_up h a0 3 (h a1 3)) (a1 + 1)) ((am_up h a0 3 (h a1 3)) (a0 + 1)) (0 : Int32).toNatClampNeg (0 : Int32).toNatClampNeg (Int32.toNatClampNeg ((am_up h a0 3 (h a1 3)) a0 3)))) a0 3)))) a0 3) < 0 ∨ 40 < (0 : Int32).toNatClampNeg + Int32.toNatClampNeg ((va_up (va_up (am_up h a0 3 (h a1 3)) (a0 + 1) (va_cpy ((am_up h a0 3 (h a1 3)) (a1 + 1)) ((am_up h a0 3 (h a1 3)) (a0 + 1)) (0 : Int32).toNatClampNeg (0 : Int32).toNatClampNeg (Int32.toNatClampNeg ((am_up h a0 3 (h a1 3)) a0 3)))) (a0 + 2) (va_cpy ((va_up (am_up h a0 3 (h a1 3)) (a0 + 1) (va_cpy ((am_up h a0 3 (h a1 3)) (a1 + 1)) ((am_up h a0 3 (h a1 3)) (a0 + 1)) (0 : Int32).toNatClampNeg (0 : Int32).toNatClampNeg (Int32.toNatClampNeg ((am_up h a0 3 (h a1 3)) a0 3)))) (a1 + 2)) ((va_up (am_up h a0 3 (h a1 3)) (a0 + 1) (va_cpy ((am_up h a0 3 (h a1 3)) (a1 + 1)) ((am_up h a0 3 (h a1 3)) (a0 + 1)) (0 : Int32).toNatClampNeg (0 : Int32).toNatClampNeg (Int32.toNatClampNeg ((am_up h a0 3 (h a1 3)) a0 3)))) (a0 + 2)) (0 : Int32).toNatClampNeg (0 : Int32).toNatClampNeg (Int32.toNatClampNeg ((va_up (am_up h a0 3 (h a1 3)) (a0 + 1) (va_cpy ((am_up h a0 3 (h a1 3)) (a1 + 1)) ((am_up h a0 3 (h a1 3)) (a0 + 1)) (0 : Int32).toNatClampNeg (0 : Int32).toNatClampNeg (Int32.toNatClampNeg ((am_up h a0 3 (h a1 3)) a0 3)))) a0 3)))) a0 3) ∨ 40 < (0 : Int32).toNatClampNeg + Int32.toNatClampNeg ((va_up (va_up (am_up h a0 3 (h a1 3)) (a0 + 1) (va_cpy ((am_up h a0 3 (h a1 3)) (a1 + 1)) ((am_up h a0 3 (h a1 3)) (a0 + 1)) (0 : Int32).toNatClampNeg (0 : Int32).toNatClampNeg (Int32.toNatClampNeg ((am_up h a0 3 (h a1 3)) a0 3)))) (a0 + 2) (va_cpy ((va_up (am_up h a0 3 (h a1 3)) (a0 + 1) (va_cpy ((am_up h a0 3 (h a1 3)) (a1 + 1)) ((am_up h a0 3 (h a1 3)) (a0 + 1)) (0 : Int32).toNatClampNeg (0 : Int32).toNatClampNeg (Int32.toNatClampNeg ((am_up h a0 3 (h a1 3)) a0 3)))) (a1 + 2)) ((va_up (am_up h a0 3 (h a1 3)) (a0 + 1) (va_cpy ((am_up h a0 3 (h a1 3)) (a1 + 1)) ((am_up h a0 3 (h a1 3)) (a0 + 1)) (0 : Int32).toNatClampNeg (0 : Int32).toNatClampNeg (Int32.toNatClampNeg ((am_up h a0 3 (h a1 3)) a0 3)))) (a0 + 2)) (0 : Int32).toNatClampNeg (0 : Int32).toNatClampNeg (Int32.toNatClampNeg ((va_up (am_up h a0 3 (h a1 3)) (a0 + 1) (va_cpy ((am_up h a0 3 (h a1 3)) (a1 + 1)) ((am_up h a0 3 (h a1 3)) (a0 + 1)) (0 : Int32).toNatClampNeg (0 : Int32).toNatClampNeg (Int32.toNatClampNeg ((am_up h a0 3 (h a1 3)) a0 3)))) a0 3)))) a0 3) then none else
  some (va_up (va_up (va_up (am_up h a0 3 (h a1 3)) (a0 + 1) (va_cpy ((am_up h a0 3 (h a1 3)) (a1 + 1)) ((am_up h a0 3 (h a1 3)) (a0 + 1)) (0 : Int32).toNatClampNeg (0 : Int32).toNatClampNeg (Int32.toNatClampNeg ((am_up h a0 3 (h a1 3)) a0 3)))) (a0 + 2) (va_cpy ((va_up (am_up h a0 3 (h a1 3)) (a0 + 1) (va_cpy ((am_up h a0 3 (h a1 3)) (a1 + 1)) ((am_up h a0 3 (h a1 3)) (a0 + 1)) (0 : Int32).toNatClampNeg (0 : Int32).toNatClampNeg (Int32.toNatClampNeg ((am_up h a0 3 (h a1 3)) a0 3)))) (a1 + 2)) ((va_up (am_up h a0 3 (h a1 3)) (a0 + 1) (va_cpy ((am_up h a0 3 (h a1 3)) (a1 + 1)) ((am_up h a0 3 (h a1 3)) (a0 + 1)) (0 : Int32).toNatClampNeg (0 : Int32).toNatClampNeg (Int32.toNatClampNeg ((am_up h a0 3 (h a1 3)) a0 3)))) (a0 + 2)) (0 : Int32).toNatClampNeg (0 : Int32).toNatClampNeg (Int32.toNatClampNeg ((va_up (am_up h a0 3 (h a1 3)) (a0 + 1) (va_cpy ((am_up h a0 3 (h a1 3)) (a1 + 1)) ((am_up h a0 3 (h a1 3)) (a0 + 1)) (0 : Int32).toNatClampNeg (0 : Int32).toNatClampNeg (Int32.toNatClampNeg ((am_up h a0 3 (h a1 3)) a0 3)))) a0 3)))) (a0 + 3) (va_cpy ((va_up (va_up (am_up h a0 3 (h a1 3)) (a0 + 1) (va_cpy ((am_up h a0 3 (h a1 3)) (a1 + 1)) ((am_up h a0 3 (h a1 3)) (a0 + 1)) (0 : Int32).toNatClampNeg (0 : Int32).toNatClampNeg (Int32.toNatClampNeg ((am_up h a0 3 (h a1 3)) a0 3)))) (a0 + 2) (va_cpy ((va_up (am_up h a0 3 (h a1 3)) (a0 + 1) (va_cpy ((am_up h a0 3 (h a1 3)) (a1 + 1)) ((am_up h a0 3 (h a1 3)) (a0 + 1)) (0 : Int32).toNatClampNeg (0 : Int32).toNatClampNeg (Int32.toNatClampNeg ((am_up h a0 3 (h a1 3)) a0 3)))) (a1 + 2)) ((va_up (am_up h a0 3 (h a1 3)) (a0 + 1) (va_cpy ((am_up h a0 3 (h a1 3)) (a1 + 1)) ((am_up h a0 3 (h a1 3)) (a0 + 1)) (0 : Int32).toNatClampNeg (0 : Int32).toNatClampNeg (Int32.toNatClampNeg ((am_up h a0 3 (h a1 3)) a0 3)))) (a0 + 2)) (0 : Int32).toNatClampNeg (0 : Int32).toNatClampNeg (Int32.toNatClampNeg ((va_up (am_up h a0 3 (h a1 3)) (a0 + 1) (va_cpy ((am_up h a0 3 (h a1 3)) (a1 + 1)) ((am_up h a0 3 (h a1 3)) (a0 + 1)) (0 : Int32).toNatClampNeg (0 : Int32).toNatClampNeg (Int32.toNatClampNeg ((am_up h a0 3 (h a1 3)) a0 3)))) a0 3)))) (a1 + 3)) ((va_up (va_up (am_up h a0 3 (h a1 3)) (a0 + 1) (va_cpy ((am_up h a0 3 (h a1 3)) (a1 + 1)) ((am_up h a0 3 (h a1 3)) (a0 + 1)) (0 : Int32).toNatClampNeg (0 : Int32).toNatClampNeg (Int32.toNatClampNeg ((am_up h a0 3 (h a1 3)) a0 3)))) (a0 + 2) (va_cpy ((va_up (am_up h a0 3 (h a1 3)) (a0 + 1) (va_cpy ((am_up h a0 3 (h a1 3)) (a1 + 1)) ((am_up h a0 3 (h a1 3)) (a0 + 1)) (0 : Int32).toNatClampNeg (0 : Int32).toNatClampNeg (Int32.toNatClampNeg ((am_up h a0 3 (h a1 3)) a0 3)))) (a1 + 2)) ((va_up (am_up h a0 3 (h a1 3)) (a0 + 1) (va_cpy ((am_up h a0 3 (h a1 3)) (a1 + 1)) ((am_up h a0 3 (h a1 3)) (a0 + 1)) (0 : Int32).toNatClampNeg (0 : Int32).toNatClampNeg (Int32.toNatClampNeg ((am_up h a0 3 (h a1 3)) a0 3)))) (a0 + 2)) (0 : Int32).toNatClampNeg (0 : Int32).toNatClampNeg (Int32.toNatClampNeg ((va_up (am_up h a0 3 (h a1 3)) (a0 + 1) (va_cpy ((am_up h a0 3 (h a1 3)) (a1 + 1)) ((am_up h a0 3 (h a1 3)) (a0 + 1)) (0 : Int32).toNatClampNeg (0 : Int32).toNatClampNeg (Int32.toNatClampNeg ((am_up h a0 3 (h a1 3)) a0 3)))) a0 3)))) (a0 + 3)) (0 : Int32).toNatClampNeg (0 : Int32).toNatClampNeg (Int32.toNatClampNeg ((va_up (va_up (am_up h a0 3 (h a1 3)) (a0 + 1) (va_cpy ((am_up h a0 3 (h a1 3)) (a1 + 1)) ((am_up h a0 3 (h a1 3)) (a0 + 1)) (0 : Int32).toNatClampNeg (0 : Int32).toNatClampNeg (Int32.toNatClampNeg ((am_up h a0 3 (h a1 3)) a0 3)))) (a0 + 2) (va_cpy ((va_up (am_up h a0 3 (h a1 3)) (a0 + 1) (va_cpy ((am_up h a0 3 (h a1 3)) (a1 + 1)) ((am_up h a0 3 (h a1 3)) (a0 + 1)) (0 : Int32).toNatClampNeg (0 : Int32).toNatClampNeg (Int32.toNatClampNeg ((am_up h a0 3 (h a1 3)) a0 3)))) (a1 + 2)) ((va_up (am_up h a0 3 (h a1 3)) (a0 + 1) (va_cpy ((am_up h a0 3 (h a1 3)) (a1 + 1)) ((am_up h a0 3 (h a1 3)) (a0 + 1)) (0 : Int32).toNatClampNeg (0 : Int32).toNatClampNeg (Int32.toNatClampNeg ((am_up h a0 3 (h a1 3)) a0 3)))) (a0 + 2)) (0 : Int32).toNatClampNeg (0 : Int32).toNatClampNeg (Int32.toNatClampNeg ((va_up (am_up h a0 3 (h a1 3)) (a0 + 1) (va_cpy ((am_up h a0 3 (h a1 3)) (a1 + 1)) ((am_up h a0 3 (h a1 3)) (a0 + 1)) (0 : Int32).toNatClampNeg (0 : Int32).toNatClampNeg (Int32.toNatClampNeg ((am_up h a0 3 (h a1 3)) a0 3)))) a0 3)))) a0 3))), none) := (am_g_run (tb := cA_copy) rfl rfl (Nat.le_of_ble_eq_true rfl) rfl).trans (qA_copy_0 (am_g d) 999999 a0 a1 h)
def rK_begin (d n i : Nat) (ls : am_L) (h : am_H) : am_Z := am_run 0 (fun _ => 0) cK_begin (am_g d) n i ls h
theorem gK_begin (d : Nat) (a0 : Nat) (a1 : Nat) (x2 : Int32) (h : am_H) : am_g (d + 1) 2 [vr 1 a0, vr 2 a1, vi x2] h =
  rK_begin d 999999 12 [some (vr 1 a0), some (vr 2 a1), some (vi x2), some (vi 0)] (am_up (am_up (am_up h a0 0 (nI a1)) a0 1 x2) a0 14 0) := (am_g_run (tb := cK_begin) rfl rfl (Nat.le_of_ble_eq_true rfl) rfl).trans (qK_begin_0 (am_g d) 999999 a0 a1 x2 h)
theorem tK_begin_12 (d n : Nat) (a0 : Nat) (a1 : Nat) (x2 : Int32) (x3 : Int32) (h : am_H) : rK_begin d (n + 1) 12 [some (vr 1 a0), some (vr 2 a1), some (vi x2), some (vi x3)] h =
  if x3 < (h (Int32.toNatClampNeg (h a0 0)) 16) then
    (am_b 4 x3 fun j1 =>
    am_b 4 x3 fun j2 =>
    am_b 4 x3 fun j3 =>
    am_b 4 x3 fun j4 =>
    am_r0 (am_g d 9 [vr 1 a0, vi x3, vi ((am_up (am_up h (a0 + 2) j1 0) (a0 + 3) j3 ((am_up h (a0 + 2) j1 0) ((Int32.toNatClampNeg ((am_up h (a0 + 2) j1 0) a0 0)) + 10) j2)) ((Int32.toNatClampNeg ((am_up (am_up h (a0 + 2) j1 0) (a0 + 3) j3 ((am_up h (a0 + 2) j1 0) ((Int32.toNatClampNeg ((am_up h (a0 + 2) j1 0) a0 0)) + 10) j2)) a0 0)) + 9) j4)] (am_up (am_up h (a0 + 2) j1 0) (a0 + 3) j3 ((am_up h (a0 + 2) j1 0) ((Int32.toNatClampNeg ((am_up h (a0 + 2) j1 0) a0 0)) + 10) j2))) fun h5 =>
    rK_begin d n 12 [some (vr 1 a0), some (vr 2 a1), some (vi x2), some (vi (x3 + 1))] h5)
  else rK_begin d n 44 [some (vr 1 a0), some (vr 2 a1), some (vi x2), some (vi 0)] h := qK_begin_12 (am_g d) n a0 a1 x2 x3 h
theorem tK_begin_44 (d n : Nat) (a0 : Nat) (a1 : Nat) (x2 : Int32) (x3 : Int32) (h : am_H) : rK_begin d (n + 1) 44 [some (vr 1 a0), some (vr 2 a1), some (vi x2), some (vi x3)] h =
  if x3 < (h (Int32.toNatClampNeg (h a0 0)) 17) then
    (am_b 5 x3 fun j1 =>
    am_b 5 x3 fun j2 =>
    am_b 5 x3 fun j3 =>
    am_b 5 x3 fun j4 =>
    am_b 5 x3 fun j5 =>
    rK_begin d n 44 [some (vr 1 a0), some (vr 2 a1), some (vi x2), some (vi (x3 + 1))] (am_up (am_up (am_up (am_up h (a0 + 5) j2 (h ((Int32.toNatClampNeg (h a0 0)) + 11) j1)) (a0 + 6) j3 (-4)) (a0 + 7) j4 0) (a0 + 8) j5 0))
  else some (h, none) := qK_begin_44 (am_g d) n a0 a1 x2 x3 h
def rK_perform (d n i : Nat) (ls : am_L) (h : am_H) : am_Z := am_run 0 (fun _ => 0) cK_perform (am_g d) n i ls h
theorem gK_perform (d : Nat) (a0 : Nat) (x1 : Int32) (x2 : Int32) (x3 : Int32) (h : am_H) : am_g (d + 1) 3 [vr 1 a0, vi x1, vi x2, vi x3] h =
  if x1 = 0 then
    (am_r0 (am_g d 7 [vr 1 a0, vi x2, vi x3] h) fun h1 =>
    some (h1, none))
  else if x1 = 1 then
    (am_r1 (am_g d 4 [vr 1 a0, vi x2, vi x3] h) fun h2 v3 =>
    if v3 = 0 then
      (if x1 = 2 then
        (am_r1 (am_g d 5 [vr 1 a0, vi x2, vi x3] h2) fun h4 v5 =>
        if v5 = 0 then
          (if x1 = 3 then
            (am_r1 (am_g d 6 [vr 1 a0, vi x2, vi x3] h4) fun h6 v7 =>
            if v7 = 0 then
              (some (h6, none))
            else am_r0 (am_g d 11 [vr 1 a0, vi x2, vi x3] h6) fun h8 =>
            some (h8, none))
          else some (h4, none))
        else am_r0 (am_g d 10 [vr 1 a0, vi x2, vi x3] h4) fun h9 =>
        some (h9, none))
      else if x1 = 3 then
        (am_r1 (am_g d 6 [vr 1 a0, vi x2, vi x3] h2) fun h10 v11 =>
        if v11 = 0 then
          (some (h10, none))
        else am_r0 (am_g d 11 [vr 1 a0, vi x2, vi x3] h10) fun h12 =>
        some (h12, none))
      else some (h2, none))
    else am_r0 (am_g d 8 [vr 1 a0, vi x2, vi x3] h2) fun h13 =>
    some (h13, none))
  else if x1 = 2 then
    (am_r1 (am_g d 5 [vr 1 a0, vi x2, vi x3] h) fun h14 v15 =>
    if v15 = 0 then
      (if x1 = 3 then
        (am_r1 (am_g d 6 [vr 1 a0, vi x2, vi x3] h14) fun h16 v17 =>
        if v17 = 0 then
          (some (h16, none))
        else am_r0 (am_g d 11 [vr 1 a0, vi x2, vi x3] h16) fun h18 =>
        some (h18, none))
      else some (h14, none))
    else am_r0 (am_g d 10 [vr 1 a0, vi x2, vi x3] h14) fun h19 =>
    some (h19, none))
  else if x1 = 3 then
    (am_r1 (am_g d 6 [vr 1 a0, vi x2, vi x3] h) fun h20 v21 =>
    if v21 = 0 then
      (some (h20, none))
    else am_r0 (am_g d 11 [vr 1 a0, vi x2, vi x3] h20) fun h22 =>
    some (h22, none))
  else some (h, none) := (am_g_run (tb := cK_perform) rfl rfl (Nat.le_of_ble_eq_true rfl) rfl).trans (qK_perform_0 (am_g d) 999999 a0 x1 x2 x3 h)
def rK_canGo (d n i : Nat) (ls : am_L) (h : am_H) : am_Z := am_run 0 (fun _ => 0) cK_canGo (am_g d) n i ls h
theorem gK_canGo (d : Nat) (a0 : Nat) (x1 : Int32) (x2 : Int32) (h : am_H) : am_g (d + 1) 4 [vr 1 a0, vi x1, vi x2] h =
  am_b 4 x1 fun j1 =>
  am_r1 (am_g d 29 [vr 2 (Int32.toNatClampNeg (h a0 0)), vi x2, vi (h (a0 + 1) j1)] h) fun h2 v3 =>
  if v3 &&& 1 = v3 then some (h2, some v3) else none := (am_g_run (tb := cK_canGo) rfl rfl (Nat.le_of_ble_eq_true rfl) rfl).trans (qK_canGo_0 (am_g d) 999999 a0 x1 x2 h)
def rK_canTake (d n i : Nat) (ls : am_L) (h : am_H) : am_Z := am_run 0 (fun _ => 0) cK_canTake (am_g d) n i ls h
theorem gK_canTake (d : Nat) (a0 : Nat) (x1 : Int32) (x2 : Int32) (h : am_H) : am_g (d + 1) 5 [vr 1 a0, vi x1, vi x2] h =
  am_b 5 x2 fun j1 =>
  am_b 4 x1 fun j2 =>
  if (h (a0 + 5) j1) = (h (a0 + 1) j2) then
    (am_b 5 x2 fun j3 =>
    am_b 4 x1 fun j4 =>
    if (h (a0 + 2) j4) < (h (a0 + 7) j3) then
      (some (h, some 0))
    else some (h, some 1))
  else some (h, some 0) := (am_g_run (tb := cK_canTake) rfl rfl (Nat.le_of_ble_eq_true rfl) rfl).trans (qK_canTake_0 (am_g d) 999999 a0 x1 x2 h)
def rK_canPut (d n i : Nat) (ls : am_L) (h : am_H) : am_Z := am_run 0 (fun _ => 0) cK_canPut (am_g d) n i ls h
theorem gK_canPut (d : Nat) (a0 : Nat) (x1 : Int32) (x2 : Int32) (h : am_H) : am_g (d + 1) 6 [vr 1 a0, vi x1, vi x2] h =
  am_b 5 x2 fun j1 =>
  if (h (a0 + 6) j1) = x1 then
    (some (h, some 1))
  else some (h, some 0) := (am_g_run (tb := cK_canPut) rfl rfl (Nat.le_of_ble_eq_true rfl) rfl).trans (qK_canPut_0 (am_g d) 999999 a0 x1 x2 h)
def rK_pass (d n i : Nat) (ls : am_L) (h : am_H) : am_Z := am_run 0 (fun _ => 0) cK_pass (am_g d) n i ls h
theorem gK_pass (d : Nat) (a0 : Nat) (x1 : Int32) (x2 : Int32) (h : am_H) : am_g (d + 1) 7 [vr 1 a0, vi x1, vi x2] h =
  am_b 4 x1 fun j1 =>
  am_b 4 x1 fun j2 =>
  am_r1 (am_g d 12 [vr 1 a0, vi (h (a0 + 1) j2)] h) fun h3 v4 =>
  am_b 4 x1 fun j5 =>
  am_b 4 x1 fun j6 =>
  am_b 4 x1 fun j7 =>
  am_b 4 x1 fun j8 =>
  am_b 4 x1 fun j9 =>
  am_b 44 ((am_up (am_up h3 (a0 + 2) j5 ((h (a0 + 2) j1) + (x2 * v4))) (a0 + 3) j7 (((am_up h3 (a0 + 2) j5 ((h (a0 + 2) j1) + (x2 * v4))) (a0 + 3) j6) + x2)) (a0 + 4) j8) fun j10 =>
  rK_pass d 999999 37 [some (vr 1 a0), some (vi x1), some (vi x2), some (vi 0)] (am_up (am_up (am_up h3 (a0 + 2) j5 ((h (a0 + 2) j1) + (x2 * v4))) (a0 + 3) j7 (((am_up h3 (a0 + 2) j5 ((h (a0 + 2) j1) + (x2 * v4))) (a0 + 3) j6) + x2)) (a0 + 12) j10 ((am_up (am_up h3 (a0 + 2) j5 ((h (a0 + 2) j1) + (x2 * v4))) (a0 + 3) j7 (((am_up h3 (a0 + 2) j5 ((h (a0 + 2) j1) + (x2 * v4))) (a0 + 3) j6) + x2)) (a0 + 2) j9)) := (am_g_run (tb := cK_pass) rfl rfl (Nat.le_of_ble_eq_true rfl) rfl).trans (qK_pass_0 (am_g d) 999999 a0 x1 x2 h)
theorem tK_pass_37 (d n : Nat) (a0 : Nat) (x1 : Int32) (x2 : Int32) (x3 : Int32) (h : am_H) : rK_pass d (n + 1) 37 [some (vr 1 a0), some (vi x1), some (vi x2), some (vi x3)] h =
  if x3 < (h (Int32.toNatClampNeg (h a0 0)) 17) then
    (am_b 5 x3 fun j1 =>
    if (h (a0 + 6) j1) = x1 then
      (am_b 5 x3 fun j2 =>
      am_b 5 x3 fun j3 =>
      rK_pass d n 37 [some (vr 1 a0), some (vi x1), some (vi x2), some (vi (x3 + 1))] (am_up h (a0 + 8) j3 ((h (a0 + 8) j2) + (x2 * 144))))
    else rK_pass d n 37 [some (vr 1 a0), some (vi x1), some (vi x2), some (vi (x3 + 1))] h)
  else some (h, none) := qK_pass_37 (am_g d) n a0 x1 x2 x3 h
def rK_cross (d n i : Nat) (ls : am_L) (h : am_H) : am_Z := am_run 0 (fun _ => 0) cK_cross (am_g d) n i ls h
theorem gK_cross (d : Nat) (a0 : Nat) (x1 : Int32) (x2 : Int32) (h : am_H) : am_g (d + 1) 8 [vr 1 a0, vi x1, vi x2] h =
  am_r0 (am_g d 7 [vr 1 a0, vi x1, vi (h (Int32.toNatClampNeg (h a0 0)) 18)] h) fun h1 =>
  am_b 4 x1 fun j2 =>
  am_b 4 x1 fun j3 =>
  am_r1 (am_g d 31 [vr 2 (Int32.toNatClampNeg (h1 a0 0)), vi x2, vi (h1 (a0 + 1) j3)] h1) fun h4 v5 =>
  am_b 4 x1 fun j6 =>
  am_b 4 x1 fun j7 =>
  am_r1 (am_g d 30 [vr 2 (Int32.toNatClampNeg ((am_up h4 (a0 + 2) j6 ((h1 (a0 + 2) j2) + v5)) a0 0)), vi x2, vi ((am_up h4 (a0 + 2) j6 ((h1 (a0 + 2) j2) + v5)) (a0 + 1) j7)] (am_up h4 (a0 + 2) j6 ((h1 (a0 + 2) j2) + v5))) fun h8 v9 =>
  am_r0 (am_g d 9 [vr 1 a0, vi x1, vi v9] h8) fun h10 =>
  some (h10, none) := (am_g_run (tb := cK_cross) rfl rfl (Nat.le_of_ble_eq_true rfl) rfl).trans (qK_cross_0 (am_g d) 999999 a0 x1 x2 h)
def rK_enter (d n i : Nat) (ls : am_L) (h : am_H) : am_Z := am_run 0 (fun _ => 0) cK_enter (am_g d) n i ls h
theorem gK_enter (d : Nat) (a0 : Nat) (x1 : Int32) (x2 : Int32) (h : am_H) : am_g (d + 1) 9 [vr 1 a0, vi x1, vi x2] h =
  am_b 4 x1 fun j1 =>
  if ((am_up h (a0 + 1) j1 x2) a0 14) < 44 then
    (am_b 44 ((am_up h (a0 + 1) j1 x2) a0 14) fun j2 =>
    am_b 44 ((am_up (am_up h (a0 + 1) j1 x2) (a0 + 9) j2 x1) a0 14) fun j3 =>
    am_b 4 x1 fun j4 =>
    am_b 44 ((am_up (am_up (am_up h (a0 + 1) j1 x2) (a0 + 9) j2 x1) (a0 + 10) j3 x2) a0 14) fun j5 =>
    am_b 4 x1 fun j6 =>
    am_b 44 ((am_up (am_up (am_up (am_up h (a0 + 1) j1 x2) (a0 + 9) j2 x1) (a0 + 10) j3 x2) (a0 + 11) j5 ((am_up (am_up (am_up h (a0 + 1) j1 x2) (a0 + 9) j2 x1) (a0 + 10) j3 x2) (a0 + 2) j4)) a0 14) fun j7 =>
    am_b 4 x1 fun j8 =>
    some (am_up (am_up (am_up (am_up (am_up (am_up (am_up h (a0 + 1) j1 x2) (a0 + 9) j2 x1) (a0 + 10) j3 x2) (a0 + 11) j5 ((am_up (am_up (am_up h (a0 + 1) j1 x2) (a0 + 9) j2 x1) (a0 + 10) j3 x2) (a0 + 2) j4)) (a0 + 12) j7 ((am_up (am_up (am_up (am_up h (a0 + 1) j1 x2) (a0 + 9) j2 x1) (a0 + 10) j3 x2) (a0 + 11) j5 ((am_up (am_up (am_up h (a0 + 1) j1 x2) (a0 + 9) j2 x1) (a0 + 10) j3 x2) (a0 + 2) j4)) (a0 + 2) j6)) (a0 + 4) j8 ((am_up (am_up (am_up (am_up (am_up h (a0 + 1) j1 x2) (a0 + 9) j2 x1) (a0 + 10) j3 x2) (a0 + 11) j5 ((am_up (am_up (am_up h (a0 + 1) j1 x2) (a0 + 9) j2 x1) (a0 + 10) j3 x2) (a0 + 2) j4)) (a0 + 12) j7 ((am_up (am_up (am_up (am_up h (a0 + 1) j1 x2) (a0 + 9) j2 x1) (a0 + 10) j3 x2) (a0 + 11) j5 ((am_up (am_up (am_up h (a0 + 1) j1 x2) (a0 + 9) j2 x1) (a0 + 10) j3 x2) (a0 + 2) j4)) (a0 + 2) j6)) a0 14)) a0 14 (((am_up (am_up (am_up (am_up (am_up (am_up h (a0 + 1) j1 x2) (a0 + 9) j2 x1) (a0 + 10) j3 x2) (a0 + 11) j5 ((am_up (am_up (am_up h (a0 + 1) j1 x2) (a0 + 9) j2 x1) (a0 + 10) j3 x2) (a0 + 2) j4)) (a0 + 12) j7 ((am_up (am_up (am_up (am_up h (a0 + 1) j1 x2) (a0 + 9) j2 x1) (a0 + 10) j3 x2) (a0 + 11) j5 ((am_up (am_up (am_up h (a0 + 1) j1 x2) (a0 + 9) j2 x1) (a0 + 10) j3 x2) (a0 + 2) j4)) (a0 + 2) j6)) (a0 + 4) j8 ((am_up (am_up (am_up (am_up (am_up h (a0 + 1) j1 x2) (a0 + 9) j2 x1) (a0 + 10) j3 x2) (a0 + 11) j5 ((am_up (am_up (am_up h (a0 + 1) j1 x2) (a0 + 9) j2 x1) (a0 + 10) j3 x2) (a0 + 2) j4)) (a0 + 12) j7 ((am_up (am_up (am_up (am_up h (a0 + 1) j1 x2) (a0 + 9) j2 x1) (a0 + 10) j3 x2) (a0 + 11) j5 ((am_up (am_up (am_up h (a0 + 1) j1 x2) (a0 + 9) j2 x1) (a0 + 10) j3 x2) (a0 + 2) j4)) (a0 + 2) j6)) a0 14)) a0 14) + 1), none))
  else some (am_up h (a0 + 1) j1 x2, none) := (am_g_run (tb := cK_enter) rfl rfl (Nat.le_of_ble_eq_true rfl) rfl).trans (qK_enter_0 (am_g d) 999999 a0 x1 x2 h)
def rK_pick (d n i : Nat) (ls : am_L) (h : am_H) : am_Z := am_run 0 (fun _ => 0) cK_pick (am_g d) n i ls h
theorem gK_pick (d : Nat) (a0 : Nat) (x1 : Int32) (x2 : Int32) (h : am_H) : am_g (d + 1) 10 [vr 1 a0, vi x1, vi x2] h =
  am_b 4 x1 fun j1 =>
  am_r1 (am_g d 14 [vr 1 a0, vi x2, vi (h (a0 + 2) j1)] h) fun h2 v3 =>
  am_b 5 x2 fun j4 =>
  am_b 5 x2 fun j5 =>
  am_b 5 x2 fun j6 =>
  some (am_up (am_up (am_up h2 (a0 + 8) j4 v3) (a0 + 5) j5 (-4)) (a0 + 6) j6 x1, none) := (am_g_run (tb := cK_pick) rfl rfl (Nat.le_of_ble_eq_true rfl) rfl).trans (qK_pick_0 (am_g d) 999999 a0 x1 x2 h)
def rK_drop (d n i : Nat) (ls : am_L) (h : am_H) : am_Z := am_run 0 (fun _ => 0) cK_drop (am_g d) n i ls h
theorem gK_drop (d : Nat) (a0 : Nat) (x1 : Int32) (x2 : Int32) (h : am_H) : am_g (d + 1) 11 [vr 1 a0, vi x1, vi x2] h =
  am_b 4 x1 fun j1 =>
  am_b 5 x2 fun j2 =>
  am_b 5 x2 fun j3 =>
  am_b 4 x1 fun j4 =>
  am_b 5 x2 fun j5 =>
  some (am_up (am_up (am_up h (a0 + 5) j2 (h (a0 + 1) j1)) (a0 + 6) j3 (-4)) (a0 + 7) j5 ((am_up (am_up h (a0 + 5) j2 (h (a0 + 1) j1)) (a0 + 6) j3 (-4)) (a0 + 2) j4), none) := (am_g_run (tb := cK_drop) rfl rfl (Nat.le_of_ble_eq_true rfl) rfl).trans (qK_drop_0 (am_g d) 999999 a0 x1 x2 h)
def rK_hourTicksOf (d n i : Nat) (ls : am_L) (h : am_H) : am_Z := am_run 0 (fun _ => 0) cK_hourTicksOf (am_g d) n i ls h
theorem gK_hourTicksOf (d : Nat) (a0 : Nat) (x1 : Int32) (h : am_H) : am_g (d + 1) 12 [vr 1 a0, vi x1] h =
  if x1 = (h a0 1) then
    (some (h, some 12))
  else am_b 6 x1 fun j1 =>
  some (h, some (h ((Int32.toNatClampNeg (h a0 0)) + 4) j1)) := (am_g_run (tb := cK_hourTicksOf) rfl rfl (Nat.le_of_ble_eq_true rfl) rfl).trans (qK_hourTicksOf_0 (am_g d) 999999 a0 x1 h)
def rK_partsOfTickIn (d n i : Nat) (ls : am_L) (h : am_H) : am_Z := am_run 0 (fun _ => 0) cK_partsOfTickIn (am_g d) n i ls h
theorem gK_partsOfTickIn (d : Nat) (a0 : Nat) (x1 : Int32) (h : am_H) : am_g (d + 1) 13 [vr 1 a0, vi x1] h =
  if x1 = (h a0 1) then
    (some (h, some 12))
  else am_b 6 x1 fun j1 =>
  some (h, some (h ((Int32.toNatClampNeg (h a0 0)) + 5) j1)) := (am_g_run (tb := cK_partsOfTickIn) rfl rfl (Nat.le_of_ble_eq_true rfl) rfl).trans (qK_partsOfTickIn_0 (am_g d) 999999 a0 x1 h)
def rK_wornAt (d n i : Nat) (ls : am_L) (h : am_H) : am_Z := am_run 0 (fun _ => 0) cK_wornAt (am_g d) n i ls h
theorem gK_wornAt (d : Nat) (a0 : Nat) (x1 : Int32) (x2 : Int32) (h : am_H) : am_g (d + 1) 14 [vr 1 a0, vi x1, vi x2] h =
  am_b 5 x1 fun j1 =>
  if (h (a0 + 5) j1) = (-4) then
    (am_b 5 x1 fun j2 =>
    some (h, some (h (a0 + 8) j2)))
  else am_b 5 x1 fun j3 =>
  am_b 5 x1 fun j4 =>
  am_b 5 x1 fun j5 =>
  am_r1 (am_g d 13 [vr 1 a0, vi (h (a0 + 5) j5)] h) fun h6 v7 =>
  some (h6, some ((h (a0 + 8) j3) + ((x2 - (h (a0 + 7) j4)) * v7))) := (am_g_run (tb := cK_wornAt) rfl rfl (Nat.le_of_ble_eq_true rfl) rfl).trans (qK_wornAt_0 (am_g d) 999999 a0 x1 x2 h)
def rK_thingsOf (d n i : Nat) (ls : am_L) (h : am_H) : am_Z := am_run 0 (fun _ => 0) cK_thingsOf (am_g d) n i ls h
theorem gK_thingsOf (d : Nat) (a0 : Nat) (x1 : Int32) (h : am_H) : am_g (d + 1) 15 [vr 1 a0, vi x1] h =
  rK_thingsOf d 999999 5 [some (vr 1 a0), some (vi x1), some (vi 0), some (vi 0)] h := (am_g_run (tb := cK_thingsOf) rfl rfl (Nat.le_of_ble_eq_true rfl) rfl).trans (qK_thingsOf_0 (am_g d) 999999 a0 x1 h)
theorem tK_thingsOf_5 (d n : Nat) (a0 : Nat) (x1 : Int32) (x2 : Int32) (x3 : Int32) (h : am_H) : rK_thingsOf d (n + 1) 5 [some (vr 1 a0), some (vi x1), some (vi x2), some (vi x3)] h =
  if x3 < (h (Int32.toNatClampNeg (h a0 0)) 17) then
    (am_b 5 x3 fun j1 =>
    if (h (a0 + 6) j1) = x1 then
      (rK_thingsOf d n 5 [some (vr 1 a0), some (vi x1), some (vi (x2 ||| ((1 : Int32) <<< (x3 &&& 31)))), some (vi (x3 + 1))] h)
    else rK_thingsOf d n 5 [some (vr 1 a0), some (vi x1), some (vi x2), some (vi (x3 + 1))] h)
  else some (h, some x2) := qK_thingsOf_5 (am_g d) n a0 x1 x2 x3 h
def rK_visitsOf (d n i : Nat) (ls : am_L) (h : am_H) : am_Z := am_run 0 (fun _ => 0) cK_visitsOf (am_g d) n i ls h
theorem gK_visitsOf (d : Nat) (a0 : Nat) (x1 : Int32) (h : am_H) : am_g (d + 1) 16 [vr 1 a0, vi x1] h =
  rK_visitsOf d 999999 5 [some (vr 1 a0), some (vi x1), some (vi 0), some (vi 0)] h := (am_g_run (tb := cK_visitsOf) rfl rfl (Nat.le_of_ble_eq_true rfl) rfl).trans (qK_visitsOf_0 (am_g d) 999999 a0 x1 h)
theorem tK_visitsOf_5 (d n : Nat) (a0 : Nat) (x1 : Int32) (x2 : Int32) (x3 : Int32) (h : am_H) : rK_visitsOf d (n + 1) 5 [some (vr 1 a0), some (vi x1), some (vi x2), some (vi x3)] h =
  if x3 < (h a0 14) then
    (am_b 44 x3 fun j1 =>
    if (h (a0 + 9) j1) = x1 then
      (rK_visitsOf d n 5 [some (vr 1 a0), some (vi x1), some (vi (x2 + 1)), some (vi (x3 + 1))] h)
    else rK_visitsOf d n 5 [some (vr 1 a0), some (vi x1), some (vi x2), some (vi (x3 + 1))] h)
  else some (h, some x2) := qK_visitsOf_5 (am_g d) n a0 x1 x2 x3 h
def rK_firstShared (d n i : Nat) (ls : am_L) (h : am_H) : am_Z := am_run 0 (fun _ => 0) cK_firstShared (am_g d) n i ls h
theorem gK_firstShared (d : Nat) (a0 : Nat) (x1 : Int32) (x2 : Int32) (h : am_H) : am_g (d + 1) 17 [vr 1 a0, vi x1, vi x2] h =
  am_b 44 x1 fun j1 =>
  am_b 44 x2 fun j2 =>
  am_r1 (am_g d 166 [vi (h (a0 + 11) j1), vi (h (a0 + 11) j2)] h) fun h3 v4 =>
  am_b 44 x1 fun j5 =>
  am_b 44 x2 fun j6 =>
  if (h3 (a0 + 10) j5) = (h3 (a0 + 10) j6) then
    (am_b 44 x1 fun j7 =>
    am_b 44 x2 fun j8 =>
    am_r1 (am_g d 167 [vi (h3 (a0 + 12) j7), vi (h3 (a0 + 12) j8)] h3) fun h9 v10 =>
    if v10 < v4 then
      (some (h9, some 536870912))
    else some (h9, some v4))
  else some (h3, some 536870912) := (am_g_run (tb := cK_firstShared) rfl rfl (Nat.le_of_ble_eq_true rfl) rfl).trans (qK_firstShared_0 (am_g d) 999999 a0 x1 x2 h)
def rH_readText (d n i : Nat) (ls : am_L) (h : am_H) : am_Z := am_run 0 (fun _ => 0) cH_readText (am_g d) n i ls h
theorem gH_readText (d : Nat) (a0 : Nat) (x2 : Int32) (h : am_H) : am_g (d + 1) 18 [vr 2 a0, vr 9 1, vi x2] h =
  rH_readText d 999999 20 [some (vr 2 a0), some (vr 9 1), some (vi x2), some (vi 0), some (vi 0), none] (am_up (am_up (am_up (am_up (am_up h a0 14 0) a0 15 0) a0 16 0) a0 17 0) a0 18 1) := (am_g_run (tb := cH_readText) rfl rfl (Nat.le_of_ble_eq_true rfl) rfl).trans (qH_readText_0 (am_g d) 999999 a0 x2 h)
theorem tH_readText_20 (d n : Nat) (a0 : Nat) (x2 : Int32) (x3 : Int32) (x4 : Int32) (u5 : Option am_V) (h : am_H) : rH_readText d (n + 1) 20 [some (vr 2 a0), some (vr 9 1), some (vi x2), some (vi x3), some (vi x4), u5] h =
  if x4 < x2 then
    (if x3 < x2 then
      (am_r1 (am_g d 19 [vr 2 a0, vr 9 1, vi x2, vi x3] h) fun h1 v2 =>
      if v2 = (-4) then
        (some (h1, some x3))
      else rH_readText d n 20 [some (vr 2 a0), some (vr 9 1), some (vi x2), some (vi v2), some (vi (x4 + 1)), some (vi v2)] h1)
    else some (h, some (-4)))
  else some (h, some (-4)) := qH_readText_20 (am_g d) n a0 x2 x3 x4 u5 h
def rH_readItem (d n i : Nat) (ls : am_L) (h : am_H) : am_Z := am_run 0 (fun _ => 0) cH_readItem (am_g d) n i ls h
theorem gH_readItem (d : Nat) (a0 : Nat) (x2 : Int32) (x3 : Int32) (h : am_H) : am_g (d + 1) 19 [vr 2 a0, vr 9 1, vi x2, vi x3] h =
  am_b 200 x3 fun j1 =>
  am_r1 (am_g d 20 [vi (h 1 j1)] h) fun h2 v3 =>
  rH_readItem d 999999 14 [some (vr 2 a0), some (vr 9 1), some (vi x2), some (vi x3), some (vi (h 1 j1)), some (vi v3), some (vi (x3 + 1)), some (vi 0), none] h2 := (am_g_run (tb := cH_readItem) rfl rfl (Nat.le_of_ble_eq_true rfl) rfl).trans (qH_readItem_0 (am_g d) 999999 a0 x2 x3 h)
theorem tH_readItem_14 (d n : Nat) (a0 : Nat) (x2 : Int32) (x3 : Int32) (x4 : Int32) (x5 : Int32) (x6 : Int32) (x7 : Int32) (u8 : Option am_V) (h : am_H) : rH_readItem d (n + 1) 14 [some (vr 2 a0), some (vr 9 1), some (vi x2), some (vi x3), some (vi x4), some (vi x5), some (vi x6), some (vi x7), u8] h =
  if x7 < x5 then
    (am_r1 (am_g d 21 [vr 9 1, vi x2, vi x6] h) fun h1 v2 =>
    if v2 = 0 then
      (some (h1, some (-4)))
    else am_r1 (am_g d 22 [vr 9 1, vi x6, vi v2] h1) fun h3 v4 =>
    am_b 4 x7 fun j5 =>
    if (x6 + v2) < x2 then
      (am_b 200 (x6 + v2) fun j6 =>
      if (x7 + 1) < x5 then
        (if ((am_up h3 (a0 + 14) j5 v4) 1 j6) = 44 then
          (rH_readItem d n 14 [some (vr 2 a0), some (vr 9 1), some (vi x2), some (vi x3), some (vi x4), some (vi x5), some (vi ((x6 + v2) + 1)), some (vi (x7 + 1)), some (vi v2)] (am_up h3 (a0 + 14) j5 v4))
        else some (am_up h3 (a0 + 14) j5 v4, some (-4)))
      else if ((am_up h3 (a0 + 14) j5 v4) 1 j6) = 59 then
        (rH_readItem d n 14 [some (vr 2 a0), some (vr 9 1), some (vi x2), some (vi x3), some (vi x4), some (vi x5), some (vi ((x6 + v2) + 1)), some (vi (x7 + 1)), some (vi v2)] (am_up h3 (a0 + 14) j5 v4))
      else some (am_up h3 (a0 + 14) j5 v4, some (-4)))
    else some (am_up h3 (a0 + 14) j5 v4, some (-4)))
  else am_r1 (am_g d 23 [vr 2 a0, vi x4] h) fun h7 v8 =>
  if v8 = 0 then
    (some (h7, some (-4)))
  else some (h7, some x6) := qH_readItem_14 (am_g d) n a0 x2 x3 x4 x5 x6 x7 u8 h
def rH_numbersOf (d n i : Nat) (ls : am_L) (h : am_H) : am_Z := am_run 0 (fun _ => 0) cH_numbersOf (am_g d) n i ls h
theorem gH_numbersOf (d : Nat) (x0 : Int32) (h : am_H) : am_g (d + 1) 20 [vi x0] h =
  if x0 = nI 100 then
    (some (h, some 4))
  else if x0 = nI 112 then
    (some (h, some 2))
  else if x0 = nI 114 then
    (some (h, some 3))
  else if x0 = nI 116 then
    (some (h, some 3))
  else if x0 = nI 119 then
    (some (h, some 1))
  else some (h, some 0) := (am_g_run (tb := cH_numbersOf) rfl rfl (Nat.le_of_ble_eq_true rfl) rfl).trans (qH_numbersOf_0 (am_g d) 999999 x0 h)
def rH_figuresAt (d n i : Nat) (ls : am_L) (h : am_H) : am_Z := am_run 0 (fun _ => 0) cH_figuresAt (am_g d) n i ls h
theorem gH_figuresAt (d : Nat) (x1 : Int32) (x2 : Int32) (h : am_H) : am_g (d + 1) 21 [vr 9 1, vi x1, vi x2] h =
  rH_figuresAt d 999999 5 [some (vr 9 1), some (vi x1), some (vi x2), some (vi 0), some (vi x2)] h := (am_g_run (tb := cH_figuresAt) rfl rfl (Nat.le_of_ble_eq_true rfl) rfl).trans (qH_figuresAt_0 (am_g d) 999999 x1 x2 h)
theorem tH_figuresAt_5 (d n : Nat) (x1 : Int32) (x2 : Int32) (x3 : Int32) (x4 : Int32) (h : am_H) : rH_figuresAt d (n + 1) 5 [some (vr 9 1), some (vi x1), some (vi x2), some (vi x3), some (vi x4)] h =
  if x4 < x1 then
    (if x3 < 2 then
      (am_b 200 x4 fun j1 =>
      if (h 1 j1) < 48 then
        (some (h, some x3))
      else am_b 200 x4 fun j2 =>
      if 57 < (h 1 j2) then
        (some (h, some x3))
      else rH_figuresAt d n 5 [some (vr 9 1), some (vi x1), some (vi x2), some (vi (x3 + 1)), some (vi (x4 + 1))] h)
    else some (h, some x3))
  else some (h, some x3) := qH_figuresAt_5 (am_g d) n x1 x2 x3 x4 h
def rH_numberAt (d n i : Nat) (ls : am_L) (h : am_H) : am_Z := am_run 0 (fun _ => 0) cH_numberAt (am_g d) n i ls h
theorem gH_numberAt (d : Nat) (x1 : Int32) (x2 : Int32) (h : am_H) : am_g (d + 1) 22 [vr 9 1, vi x1, vi x2] h =
  rH_numberAt d 999999 5 [some (vr 9 1), some (vi x1), some (vi x2), some (vi 0), some (vi 0)] h := (am_g_run (tb := cH_numberAt) rfl rfl (Nat.le_of_ble_eq_true rfl) rfl).trans (qH_numberAt_0 (am_g d) 999999 x1 x2 h)
theorem tH_numberAt_5 (d n : Nat) (x1 : Int32) (x2 : Int32) (x3 : Int32) (x4 : Int32) (h : am_H) : rH_numberAt d (n + 1) 5 [some (vr 9 1), some (vi x1), some (vi x2), some (vi x3), some (vi x4)] h =
  if x4 < x2 then
    (am_b 200 (x1 + x4) fun j1 =>
    rH_numberAt d n 5 [some (vr 9 1), some (vi x1), some (vi x2), some (vi ((10 * x3) + ((h 1 j1) - 48))), some (vi (x4 + 1))] h)
  else some (h, some x3) := qH_numberAt_5 (am_g d) n x1 x2 x3 x4 h
def rH_addItem (d n i : Nat) (ls : am_L) (h : am_H) : am_Z := am_run 0 (fun _ => 0) cH_addItem (am_g d) n i ls h
theorem gH_addItem (d : Nat) (a0 : Nat) (x1 : Int32) (h : am_H) : am_g (d + 1) 23 [vr 2 a0, vi x1] h =
  if x1 = nI 100 then
    (am_r1 (am_g d 25 [vr 2 a0, vi (h (a0 + 14) 0), vi (h (a0 + 14) 1), vi (h (a0 + 14) 2), vi (h (a0 + 14) 3)] h) fun h1 v2 =>
    if v2 &&& 1 = v2 then some (h1, some v2) else none)
  else if x1 = nI 112 then
    (am_r1 (am_g d 26 [vr 2 a0, vi (h (a0 + 14) 0), vi (h (a0 + 14) 1)] h) fun h3 v4 =>
    if v4 &&& 1 = v4 then some (h3, some v4) else none)
  else if x1 = nI 114 then
    (am_r1 (am_g d 24 [vr 2 a0, vi (h (a0 + 14) 0), vi (h (a0 + 14) 1), vi (h (a0 + 14) 2)] h) fun h5 v6 =>
    if v6 &&& 1 = v6 then some (h5, some v6) else none)
  else if x1 = nI 116 then
    (am_r1 (am_g d 27 [vr 2 a0, vi (h (a0 + 14) 0), vi (h (a0 + 14) 1), vi (h (a0 + 14) 2)] h) fun h7 v8 =>
    if v8 &&& 1 = v8 then some (h7, some v8) else none)
  else if x1 = nI 119 then
    (am_r1 (am_g d 28 [vr 2 a0, vi (h (a0 + 14) 0)] h) fun h9 v10 =>
    if v10 &&& 1 = v10 then some (h9, some v10) else none)
  else some (h, some 0) := (am_g_run (tb := cH_addItem) rfl rfl (Nat.le_of_ble_eq_true rfl) rfl).trans (qH_addItem_0 (am_g d) 999999 a0 x1 h)
def rH_addRoom (d n i : Nat) (ls : am_L) (h : am_H) : am_Z := am_run 0 (fun _ => 0) cH_addRoom (am_g d) n i ls h
theorem gH_addRoom (d : Nat) (a0 : Nat) (x1 : Int32) (x2 : Int32) (x3 : Int32) (h : am_H) : am_g (d + 1) 24 [vr 2 a0, vi x1, vi x2, vi x3] h =
  if (h a0 14) < 6 then
    (if x1 < 1 then
      (some (h, some 0))
    else if 4 < x1 then
      (some (h, some 0))
    else if x2 < 1 then
      (some (h, some 0))
    else if 4 < x2 then
      (some (h, some 0))
    else if x3 < 24 then
      (am_b 6 (h a0 14) fun j1 =>
      am_b 6 ((am_up h (a0 + 1) j1 x1) a0 14) fun j2 =>
      am_b 6 ((am_up (am_up h (a0 + 1) j1 x1) (a0 + 2) j2 x2) a0 14) fun j3 =>
      if x1 = 0 then none else
      am_b 6 ((am_up (am_up (am_up h (a0 + 1) j1 x1) (a0 + 2) j2 x2) (a0 + 3) j3 x3) a0 14) fun j4 =>
      if x2 = 0 then none else
      am_b 6 ((am_up (am_up (am_up (am_up h (a0 + 1) j1 x1) (a0 + 2) j2 x2) (a0 + 3) j3 x3) (a0 + 4) j4 ((12 * x2) / x1)) a0 14) fun j5 =>
      some (am_up (am_up (am_up (am_up (am_up (am_up h (a0 + 1) j1 x1) (a0 + 2) j2 x2) (a0 + 3) j3 x3) (a0 + 4) j4 ((12 * x2) / x1)) (a0 + 5) j5 ((12 * x1) / x2)) a0 14 (((am_up (am_up (am_up (am_up (am_up h (a0 + 1) j1 x1) (a0 + 2) j2 x2) (a0 + 3) j3 x3) (a0 + 4) j4 ((12 * x2) / x1)) (a0 + 5) j5 ((12 * x1) / x2)) a0 14) + 1), some 1))
    else some (h, some 0))
  else some (h, some 0) := (am_g_run (tb := cH_addRoom) rfl rfl (Nat.le_of_ble_eq_true rfl) rfl).trans (qH_addRoom_0 (am_g d) 999999 a0 x1 x2 x3 h)
def rH_addDoor (d n i : Nat) (ls : am_L) (h : am_H) : am_Z := am_run 0 (fun _ => 0) cH_addDoor (am_g d) n i ls h
theorem gH_addDoor (d : Nat) (a0 : Nat) (x1 : Int32) (x2 : Int32) (x3 : Int32) (x4 : Int32) (h : am_H) : am_g (d + 1) 25 [vr 2 a0, vi x1, vi x2, vi x3, vi x4] h =
  if (h a0 15) < 8 then
    (if x1 < (h a0 14) then
      (if x2 < (h a0 14) then
        (if x1 = x2 then
          (some (h, some 0))
        else if 1 < x3 then
          (some (h, some 0))
        else if 24 < x4 then
          (some (h, some 0))
        else am_b 8 (h a0 15) fun j1 =>
        am_b 8 ((am_up h (a0 + 6) j1 x1) a0 15) fun j2 =>
        if x3 = 0 then
          (am_b 8 ((am_up (am_up h (a0 + 6) j1 x1) (a0 + 7) j2 x2) a0 15) fun j3 =>
          some (am_up (am_up (am_up (am_up h (a0 + 6) j1 x1) (a0 + 7) j2 x2) (a0 + 8) j3 x4) a0 15 (((am_up (am_up (am_up h (a0 + 6) j1 x1) (a0 + 7) j2 x2) (a0 + 8) j3 x4) a0 15) + 1), some 1))
        else am_b 8 ((am_up (am_up h (a0 + 6) j1 x1) (a0 + 7) j2 x2) a0 15) fun j4 =>
        some (am_up (am_up (am_up (am_up h (a0 + 6) j1 x1) (a0 + 7) j2 x2) (a0 + 8) j4 (-x4)) a0 15 (((am_up (am_up (am_up h (a0 + 6) j1 x1) (a0 + 7) j2 x2) (a0 + 8) j4 (-x4)) a0 15) + 1), some 1))
      else some (h, some 0))
    else some (h, some 0))
  else some (h, some 0) := (am_g_run (tb := cH_addDoor) rfl rfl (Nat.le_of_ble_eq_true rfl) rfl).trans (qH_addDoor_0 (am_g d) 999999 a0 x1 x2 x3 x4 h)
def rH_addPerson (d n i : Nat) (ls : am_L) (h : am_H) : am_Z := am_run 0 (fun _ => 0) cH_addPerson (am_g d) n i ls h
theorem gH_addPerson (d : Nat) (a0 : Nat) (x1 : Int32) (x2 : Int32) (h : am_H) : am_g (d + 1) 26 [vr 2 a0, vi x1, vi x2] h =
  if (h a0 16) < 4 then
    (if x1 < (h a0 14) then
      (am_b 4 (h a0 16) fun j1 =>
      am_b 4 ((am_up h (a0 + 9) j1 x1) a0 16) fun j2 =>
      some (am_up (am_up (am_up h (a0 + 9) j1 x1) (a0 + 10) j2 x2) a0 16 (((am_up (am_up h (a0 + 9) j1 x1) (a0 + 10) j2 x2) a0 16) + 1), some 1))
    else some (h, some 0))
  else some (h, some 0) := (am_g_run (tb := cH_addPerson) rfl rfl (Nat.le_of_ble_eq_true rfl) rfl).trans (qH_addPerson_0 (am_g d) 999999 a0 x1 x2 h)
def rH_addThing (d n i : Nat) (ls : am_L) (h : am_H) : am_Z := am_run 0 (fun _ => 0) cH_addThing (am_g d) n i ls h
theorem gH_addThing (d : Nat) (a0 : Nat) (x1 : Int32) (x2 : Int32) (x3 : Int32) (h : am_H) : am_g (d + 1) 27 [vr 2 a0, vi x1, vi x2, vi x3] h =
  if (h a0 17) < 5 then
    (if x1 < (h a0 14) then
      (if 3 < x2 then
        (some (h, some 0))
      else if x3 < 1 then
        (some (h, some 0))
      else am_b 5 (h a0 17) fun j1 =>
      am_b 5 ((am_up h (a0 + 11) j1 x1) a0 17) fun j2 =>
      am_b 5 ((am_up (am_up h (a0 + 11) j1 x1) (a0 + 12) j2 x2) a0 17) fun j3 =>
      some (am_up (am_up (am_up (am_up h (a0 + 11) j1 x1) (a0 + 12) j2 x2) (a0 + 13) j3 x3) a0 17 (((am_up (am_up (am_up h (a0 + 11) j1 x1) (a0 + 12) j2 x2) (a0 + 13) j3 x3) a0 17) + 1), some 1))
    else some (h, some 0))
  else some (h, some 0) := (am_g_run (tb := cH_addThing) rfl rfl (Nat.le_of_ble_eq_true rfl) rfl).trans (qH_addThing_0 (am_g d) 999999 a0 x1 x2 x3 h)
def rH_setCrossing (d n i : Nat) (ls : am_L) (h : am_H) : am_Z := am_run 0 (fun _ => 0) cH_setCrossing (am_g d) n i ls h
theorem gH_setCrossing (d : Nat) (a0 : Nat) (x1 : Int32) (h : am_H) : am_g (d + 1) 28 [vr 2 a0, vi x1] h =
  if 3 < x1 then
    (some (h, some 0))
  else some (am_up h a0 18 x1, some 1) := (am_g_run (tb := cH_setCrossing) rfl rfl (Nat.le_of_ble_eq_true rfl) rfl).trans (qH_setCrossing_0 (am_g d) 999999 a0 x1 h)
def rH_isDoorOf (d n i : Nat) (ls : am_L) (h : am_H) : am_Z := am_run 0 (fun _ => 0) cH_isDoorOf (am_g d) n i ls h
theorem gH_isDoorOf (d : Nat) (a0 : Nat) (x1 : Int32) (x2 : Int32) (h : am_H) : am_g (d + 1) 29 [vr 2 a0, vi x1, vi x2] h =
  am_b 8 x1 fun j1 =>
  if (h (a0 + 6) j1) = x2 then
    (some (h, some 1))
  else am_b 8 x1 fun j2 =>
  if (h (a0 + 7) j2) = x2 then
    (some (h, some 1))
  else some (h, some 0) := (am_g_run (tb := cH_isDoorOf) rfl rfl (Nat.le_of_ble_eq_true rfl) rfl).trans (qH_isDoorOf_0 (am_g d) 999999 a0 x1 x2 h)
def rH_behind (d n i : Nat) (ls : am_L) (h : am_H) : am_Z := am_run 0 (fun _ => 0) cH_behind (am_g d) n i ls h
theorem gH_behind (d : Nat) (a0 : Nat) (x1 : Int32) (x2 : Int32) (h : am_H) : am_g (d + 1) 30 [vr 2 a0, vi x1, vi x2] h =
  am_b 8 x1 fun j1 =>
  if (h (a0 + 6) j1) = x2 then
    (am_b 8 x1 fun j2 =>
    some (h, some (h (a0 + 7) j2)))
  else am_b 8 x1 fun j3 =>
  some (h, some (h (a0 + 6) j3)) := (am_g_run (tb := cH_behind) rfl rfl (Nat.le_of_ble_eq_true rfl) rfl).trans (qH_behind_0 (am_g d) 999999 a0 x1 x2 h)
def rH_leadTicks (d n i : Nat) (ls : am_L) (h : am_H) : am_Z := am_run 0 (fun _ => 0) cH_leadTicks (am_g d) n i ls h
theorem gH_leadTicks (d : Nat) (a0 : Nat) (x1 : Int32) (x2 : Int32) (h : am_H) : am_g (d + 1) 31 [vr 2 a0, vi x1, vi x2] h =
  am_b 8 x1 fun j1 =>
  if (h (a0 + 6) j1) = x2 then
    (am_b 8 x1 fun j2 =>
    some (h, some ((h (a0 + 8) j2) * 12)))
  else am_b 8 x1 fun j3 =>
  some (h, some ((-(h (a0 + 8) j3)) * 12)) := (am_g_run (tb := cH_leadTicks) rfl rfl (Nat.le_of_ble_eq_true rfl) rfl).trans (qH_leadTicks_0 (am_g d) 999999 a0 x1 x2 h)
def rH_ticksThrough (d n i : Nat) (ls : am_L) (h : am_H) : am_Z := am_run 0 (fun _ => 0) cH_ticksThrough (am_g d) n i ls h
theorem gH_ticksThrough (d : Nat) (a0 : Nat) (x1 : Int32) (x2 : Int32) (h : am_H) : am_g (d + 1) 32 [vr 2 a0, vi x1, vi x2] h =
  am_b 6 x2 fun j1 =>
  am_r1 (am_g d 31 [vr 2 a0, vi x1, vi x2] h) fun h2 v3 =>
  some (h2, some (((h a0 18) * (h (a0 + 4) j1)) + v3)) := (am_g_run (tb := cH_ticksThrough) rfl rfl (Nat.le_of_ble_eq_true rfl) rfl).trans (qH_ticksThrough_0 (am_g d) 999999 a0 x1 x2 h)
def rH_worthOf (d n i : Nat) (ls : am_L) (h : am_H) : am_Z := am_run 0 (fun _ => 0) cH_worthOf (am_g d) n i ls h
theorem gH_worthOf (d : Nat) (a0 : Nat) (x1 : Int32) (x2 : Int32) (h : am_H) : am_g (d + 1) 33 [vr 2 a0, vi x1, vi x2] h =
  am_b 5 x1 fun j1 =>
  if (h (a0 + 12) j1) = nI 0 then
    (am_b 5 x1 fun j2 =>
    some (h, some (h (a0 + 13) j2)))
  else if (h (a0 + 12) j1) = nI 1 then
    (am_b 5 x1 fun j3 =>
    am_r1 (am_g d 166 [vi ((h (a0 + 13) j3) - (x2 / 144)), vi 0] h) fun h4 v5 =>
    some (h4, some v5))
  else if (h (a0 + 12) j1) = nI 2 then
    (am_b 5 x1 fun j6 =>
    if (x2 / 144) < (h (a0 + 13) j6) then
      (some (h, some 0))
    else some (h, some 1))
  else am_b 5 x1 fun j7 =>
  if (x2 / 144) < (h (a0 + 13) j7) then
    (some (h, some 1))
  else some (h, some 0) := (am_g_run (tb := cH_worthOf) rfl rfl (Nat.le_of_ble_eq_true rfl) rfl).trans (qH_worthOf_0 (am_g d) 999999 a0 x1 x2 h)
def rS_add (d n i : Nat) (ls : am_L) (h : am_H) : am_Z := am_run 0 (fun _ => 0) cS_add (am_g d) n i ls h
theorem gS_add (d : Nat) (x1 : Int32) (x2 : Int32) (x3 : Int32) (h : am_H) : am_g (d + 1) 34 [vr 3 70, vi x1, vi x2, vi x3] h =
  if (h 70 3) < 8 then
    (am_b 8 (h 70 3) fun j1 =>
    am_b 8 (h 70 3) fun j2 =>
    am_b 8 (h 70 3) fun j3 =>
    some (am_up (am_up (am_up (am_up h 71 j1 x1) 72 j2 x2) 73 j3 x3) 70 3 ((h 70 3) + 1), some 1))
  else some (h, some 0) := (am_g_run (tb := cS_add) rfl rfl (Nat.le_of_ble_eq_true rfl) rfl).trans (qS_add_0 (am_g d) 999999 x1 x2 x3 h)
def rS_pacesOf (d n i : Nat) (ls : am_L) (h : am_H) : am_Z := am_run 0 (fun _ => 0) cS_pacesOf (am_g d) n i ls h
theorem gS_pacesOf (d : Nat) (x1 : Int32) (h : am_H) : am_g (d + 1) 35 [vr 3 70, vi x1] h =
  rS_pacesOf d 999999 5 [some (vr 3 70), some (vi x1), some (vi 0), some (vi 0)] h := (am_g_run (tb := cS_pacesOf) rfl rfl (Nat.le_of_ble_eq_true rfl) rfl).trans (qS_pacesOf_0 (am_g d) 999999 x1 h)
theorem tS_pacesOf_5 (d n : Nat) (x1 : Int32) (x2 : Int32) (x3 : Int32) (h : am_H) : rS_pacesOf d (n + 1) 5 [some (vr 3 70), some (vi x1), some (vi x2), some (vi x3)] h =
  if x3 < 16 then
    (am_r1 (am_g d 36 [vr 3 70, vi x1, vi x3] h) fun h1 v2 =>
    if v2 = 0 then
      (rS_pacesOf d n 5 [some (vr 3 70), some (vi x1), some (vi x2), some (vi (x3 + 1))] h1)
    else rS_pacesOf d n 5 [some (vr 3 70), some (vi x1), some (vi (x2 ||| ((1 : Int32) <<< (x3 &&& 31)))), some (vi (x3 + 1))] h1)
  else some (h, some x2) := qS_pacesOf_5 (am_g d) n x1 x2 x3 h
def rS_isStillSo (d n i : Nat) (ls : am_L) (h : am_H) : am_Z := am_run 0 (fun _ => 0) cS_isStillSo (am_g d) n i ls h
theorem gS_isStillSo (d : Nat) (x1 : Int32) (x2 : Int32) (h : am_H) : am_g (d + 1) 36 [vr 3 70, vi x1, vi x2] h =
  rS_isStillSo d 999999 3 [some (vr 3 70), some (vi x1), some (vi x2), some (vi 0)] h := (am_g_run (tb := cS_isStillSo) rfl rfl (Nat.le_of_ble_eq_true rfl) rfl).trans (qS_isStillSo_0 (am_g d) 999999 x1 x2 h)
theorem tS_isStillSo_3 (d n : Nat) (x1 : Int32) (x2 : Int32) (x3 : Int32) (h : am_H) : rS_isStillSo d (n + 1) 3 [some (vr 3 70), some (vi x1), some (vi x2), some (vi x3)] h =
  if x3 < (h 70 3) then
    (am_b 8 x3 fun j1 =>
    if (h 71 j1) = x1 then
      (am_b 8 x3 fun j2 =>
      am_r1 (am_g d 38 [vi x2, vi (h 72 j2)] h) fun h3 v4 =>
      am_b 8 x3 fun j5 =>
      if v4 = (h3 73 j5) then
        (rS_isStillSo d n 3 [some (vr 3 70), some (vi x1), some (vi x2), some (vi (x3 + 1))] h3)
      else some (h3, some 0))
    else rS_isStillSo d n 3 [some (vr 3 70), some (vi x1), some (vi x2), some (vi (x3 + 1))] h)
  else some (h, some 1) := qS_isStillSo_3 (am_g d) n x1 x2 x3 h
def rS_mostAlike (d n i : Nat) (ls : am_L) (h : am_H) : am_Z := am_run 0 (fun _ => 0) cS_mostAlike (am_g d) n i ls h
theorem gS_mostAlike (d : Nat) (x1 : Int32) (x2 : Int32) (h : am_H) : am_g (d + 1) 37 [vr 3 70, vi x1, vi x2] h =
  rS_mostAlike d 999999 5 [some (vr 3 70), some (vi x1), some (vi x2), some (vi 0), some (vi 0), none, none, none] h := (am_g_run (tb := cS_mostAlike) rfl rfl (Nat.le_of_ble_eq_true rfl) rfl).trans (qS_mostAlike_0 (am_g d) 999999 x1 x2 h)
theorem tS_mostAlike_5 (d n : Nat) (x1 : Int32) (x2 : Int32) (x3 : Int32) (x4 : Int32) (u5 : Option am_V) (u6 : Option am_V) (u7 : Option am_V) (h : am_H) : rS_mostAlike d (n + 1) 5 [some (vr 3 70), some (vi x1), some (vi x2), some (vi x3), some (vi x4), u5, u6, u7] h =
  if x4 < 16 then
    (rS_mostAlike d n 13 [some (vr 3 70), some (vi x1), some (vi x2), some (vi x3), some (vi x4), some (vi 0), some (vi 0), u7] h)
  else some (h, some x3) := qS_mostAlike_5 (am_g d) n x1 x2 x3 x4 u5 u6 u7 h
theorem tS_mostAlike_13 (d n : Nat) (x1 : Int32) (x2 : Int32) (x3 : Int32) (x4 : Int32) (x5 : Int32) (x6 : Int32) (u7 : Option am_V) (h : am_H) : rS_mostAlike d (n + 1) 13 [some (vr 3 70), some (vi x1), some (vi x2), some (vi x3), some (vi x4), some (vi x5), some (vi x6), u7] h =
  if x6 < 16 then
    (if (((x1 >>> (x4 &&& 31)) &&& (x1 >>> (x6 &&& 31))) &&& 1) = 1 then
      (am_r1 (am_g d 38 [vi x4, vi x2] h) fun h1 v2 =>
      am_r1 (am_g d 38 [vi x6, vi x2] h1) fun h3 v4 =>
      if v2 = v4 then
        (rS_mostAlike d n 13 [some (vr 3 70), some (vi x1), some (vi x2), some (vi x3), some (vi x4), some (vi (x5 + 1)), some (vi (x6 + 1)), some (vi 1)] h3)
      else rS_mostAlike d n 13 [some (vr 3 70), some (vi x1), some (vi x2), some (vi x3), some (vi x4), some (vi x5), some (vi (x6 + 1)), some (vi 1)] h3)
    else rS_mostAlike d n 13 [some (vr 3 70), some (vi x1), some (vi x2), some (vi x3), some (vi x4), some (vi x5), some (vi (x6 + 1)), some (vi 0)] h)
  else am_r1 (am_g d 166 [vi x3, vi x5] h) fun h5 v6 =>
  rS_mostAlike d n 5 [some (vr 3 70), some (vi x1), some (vi x2), some (vi v6), some (vi (x4 + 1)), some (vi x5), some (vi x6), u7] h5 := qS_mostAlike_13 (am_g d) n x1 x2 x3 x4 x5 x6 u7 h
def rS_shownBy (d n i : Nat) (ls : am_L) (h : am_H) : am_Z := am_run 0 (fun _ => 0) cS_shownBy (am_g d) n i ls h
theorem gS_shownBy (d : Nat) (x0 : Int32) (x1 : Int32) (h : am_H) : am_g (d + 1) 38 [vi x0, vi x1] h =
  am_r1 (am_g d 166 [vi ((am_rem x0 4) + 1), vi 1] h) fun h1 v2 =>
  if v2 = 0 then none else
  some (h1, some ((x1 * ((x0 / 4) + 1)) / v2)) := (am_g_run (tb := cS_shownBy) rfl rfl (Nat.le_of_ble_eq_true rfl) rfl).trans (qS_shownBy_0 (am_g d) 999999 x0 x1 h)
def rT_goAll (d n i : Nat) (ls : am_L) (h : am_H) : am_Z := am_run 0 (fun _ => 0) cT_goAll (am_g d) n i ls h
theorem gT_goAll (d : Nat) (a1 : Nat) (x2 : Int32) (x3 : Int32) (x4 : Int32) (h : am_H) : am_g (d + 1) 39 [vr 4 79, vr 2 a1, vi x2, vi x3, vi x4] h =
  am_r0 (am_g d 168 [vr 484 (Int32.toNatClampNeg (h 79 0)), vi 536870912] (am_up (am_up h 79 2 536870912) 79 3 (-4))) fun h1 =>
  am_b 384 x3 fun j2 =>
  am_r0 (am_g d 42 [vr 4 79, vr 2 a1, vi x2] (am_up h1 (Int32.toNatClampNeg (h1 79 0)) j2 x4)) fun h3 =>
  am_r0 (am_g d 43 [vr 4 79, vr 2 a1, vi x2, vi 0] h3) fun h4 =>
  rT_goAll d 999999 27 [some (vr 4 79), some (vr 2 a1), some (vi x2), some (vi x3), some (vi x4), some (vi 1)] h4 := (am_g_run (tb := cT_goAll) rfl rfl (Nat.le_of_ble_eq_true rfl) rfl).trans (qT_goAll_0 (am_g d) 999999 a1 x2 x3 x4 h)
theorem tT_goAll_27 (d n : Nat) (a1 : Nat) (x2 : Int32) (x3 : Int32) (x4 : Int32) (x5 : Int32) (h : am_H) : rT_goAll d (n + 1) 27 [some (vr 4 79), some (vr 2 a1), some (vi x2), some (vi x3), some (vi x4), some (vi x5)] h =
  if 10 < x5 then
    (some (h, none))
  else am_r0 (am_g d 40 [vr 4 79, vr 2 a1, vi x2] h) fun h1 =>
  am_r0 (am_g d 42 [vr 4 79, vr 2 a1, vi x2] h1) fun h2 =>
  am_r0 (am_g d 43 [vr 4 79, vr 2 a1, vi x2, vi x5] h2) fun h3 =>
  rT_goAll d n 27 [some (vr 4 79), some (vr 2 a1), some (vi x2), some (vi x3), some (vi x4), some (vi (x5 + 1))] h3 := qT_goAll_27 (am_g d) n a1 x2 x3 x4 x5 h
def rT_step (d n i : Nat) (ls : am_L) (h : am_H) : am_Z := am_run 0 (fun _ => 0) cT_step (am_g d) n i ls h
theorem gT_step (d : Nat) (a1 : Nat) (x2 : Int32) (h : am_H) : am_g (d + 1) 40 [vr 4 79, vr 2 a1, vi x2] h =
  am_r0 (am_g d 168 [vr 484 (Int32.toNatClampNeg (h 79 1)), vi 536870912] h) fun h1 =>
  rT_step d 999999 7 [some (vr 4 79), some (vr 2 a1), some (vi x2), some (vi 0), none] h1 := (am_g_run (tb := cT_step) rfl rfl (Nat.le_of_ble_eq_true rfl) rfl).trans (qT_step_0 (am_g d) 999999 a1 x2 h)
theorem tT_step_7 (d n : Nat) (a1 : Nat) (x2 : Int32) (x3 : Int32) (u4 : Option am_V) (h : am_H) : rT_step d (n + 1) 7 [some (vr 4 79), some (vr 2 a1), some (vi x2), some (vi x3), u4] h =
  if x3 < x2 then
    (rT_step d n 13 [some (vr 4 79), some (vr 2 a1), some (vi x2), some (vi x3), some (vi 0)] h)
  else some (am_up (am_up h 79 0 (nI (Int32.toNatClampNeg (h 79 1)))) 79 1 (nI (Int32.toNatClampNeg (h 79 0))), none) := qT_step_7 (am_g d) n a1 x2 x3 u4 h
theorem tT_step_13 (d n : Nat) (a1 : Nat) (x2 : Int32) (x3 : Int32) (x4 : Int32) (h : am_H) : rT_step d (n + 1) 13 [some (vr 4 79), some (vr 2 a1), some (vi x2), some (vi x3), some (vi x4)] h =
  if x4 < (h a1 14) then
    (am_b 384 ((x3 * 6) + x4) fun j1 =>
    if (h (Int32.toNatClampNeg (h 79 0)) j1) = 536870912 then
      (rT_step d n 13 [some (vr 4 79), some (vr 2 a1), some (vi x2), some (vi x3), some (vi (x4 + 1))] h)
    else am_r0 (am_g d 41 [vr 4 79, vr 2 a1, vi x3, vi x4] h) fun h2 =>
    rT_step d n 13 [some (vr 4 79), some (vr 2 a1), some (vi x2), some (vi x3), some (vi (x4 + 1))] h2)
  else rT_step d n 7 [some (vr 4 79), some (vr 2 a1), some (vi x2), some (vi (x3 + 1)), some (vi x4)] h := qT_step_13 (am_g d) n a1 x2 x3 x4 h
def rT_leave (d n i : Nat) (ls : am_L) (h : am_H) : am_Z := am_run 0 (fun _ => 0) cT_leave (am_g d) n i ls h
theorem gT_leave (d : Nat) (a1 : Nat) (x2 : Int32) (x3 : Int32) (h : am_H) : am_g (d + 1) 41 [vr 4 79, vr 2 a1, vi x2, vi x3] h =
  am_b 384 ((x2 * 6) + x3) fun j1 =>
  rT_leave d 999999 12 [some (vr 4 79), some (vr 2 a1), some (vi x2), some (vi x3), some (vi (h (Int32.toNatClampNeg (h 79 0)) j1)), some (vi 0), none] h := (am_g_run (tb := cT_leave) rfl rfl (Nat.le_of_ble_eq_true rfl) rfl).trans (qT_leave_0 (am_g d) 999999 a1 x2 x3 h)
theorem tT_leave_12 (d n : Nat) (a1 : Nat) (x2 : Int32) (x3 : Int32) (x4 : Int32) (x5 : Int32) (u6 : Option am_V) (h : am_H) : rT_leave d (n + 1) 12 [some (vr 4 79), some (vr 2 a1), some (vi x2), some (vi x3), some (vi x4), some (vi x5), u6] h =
  if x5 < (h a1 15) then
    (am_r1 (am_g d 29 [vr 2 a1, vi x5, vi x3] h) fun h1 v2 =>
    if v2 = 0 then
      (rT_leave d n 12 [some (vr 4 79), some (vr 2 a1), some (vi x2), some (vi x3), some (vi x4), some (vi (x5 + 1)), u6] h1)
    else am_r1 (am_g d 30 [vr 2 a1, vi x5, vi x3] h1) fun h3 v4 =>
    am_b 384 ((x2 * 6) + v4) fun j5 =>
    am_r1 (am_g d 32 [vr 2 a1, vi x5, vi x3] h3) fun h6 v7 =>
    am_r1 (am_g d 167 [vi (h3 (Int32.toNatClampNeg (h3 79 1)) j5), vi (x4 + v7)] h6) fun h8 v9 =>
    am_b 384 ((x2 * 6) + v4) fun j10 =>
    rT_leave d n 12 [some (vr 4 79), some (vr 2 a1), some (vi x2), some (vi x3), some (vi x4), some (vi (x5 + 1)), some (vi ((x2 * 6) + v4))] (am_up h8 (Int32.toNatClampNeg (h3 79 1)) j10 v9))
  else some (h, none) := qT_leave_12 (am_g d) n a1 x2 x3 x4 x5 u6 h
def rT_stayOrNot (d n i : Nat) (ls : am_L) (h : am_H) : am_Z := am_run 0 (fun _ => 0) cT_stayOrNot (am_g d) n i ls h
theorem gT_stayOrNot (d : Nat) (a1 : Nat) (x2 : Int32) (h : am_H) : am_g (d + 1) 42 [vr 4 79, vr 2 a1, vi x2] h =
  rT_stayOrNot d 999999 3 [some (vr 4 79), some (vr 2 a1), some (vi x2), some (vi 0), none, none, none] h := (am_g_run (tb := cT_stayOrNot) rfl rfl (Nat.le_of_ble_eq_true rfl) rfl).trans (qT_stayOrNot_0 (am_g d) 999999 a1 x2 h)
theorem tT_stayOrNot_3 (d n : Nat) (a1 : Nat) (x2 : Int32) (x3 : Int32) (u4 : Option am_V) (u5 : Option am_V) (u6 : Option am_V) (h : am_H) : rT_stayOrNot d (n + 1) 3 [some (vr 4 79), some (vr 2 a1), some (vi x2), some (vi x3), u4, u5, u6] h =
  if x3 < x2 then
    (rT_stayOrNot d n 9 [some (vr 4 79), some (vr 2 a1), some (vi x2), some (vi x3), some (vi 0), u5, u6] h)
  else some (h, none) := qT_stayOrNot_3 (am_g d) n a1 x2 x3 u4 u5 u6 h
theorem tT_stayOrNot_9 (d n : Nat) (a1 : Nat) (x2 : Int32) (x3 : Int32) (x4 : Int32) (u5 : Option am_V) (u6 : Option am_V) (h : am_H) : rT_stayOrNot d (n + 1) 9 [some (vr 4 79), some (vr 2 a1), some (vi x2), some (vi x3), some (vi x4), u5, u6] h =
  if x4 < (h a1 14) then
    (am_b 384 ((x3 * 6) + x4) fun j1 =>
    if (h (Int32.toNatClampNeg (h 79 0)) j1) = 536870912 then
      (rT_stayOrNot d n 9 [some (vr 4 79), some (vr 2 a1), some (vi x2), some (vi x3), some (vi (x4 + 1)), some (vi (h (Int32.toNatClampNeg (h 79 0)) j1)), u6] h)
    else if (((x2 &&& (x3 ^^^ (-1))) >>> (x4 &&& 31)) &&& 1) = 1 then
      (am_b 384 (((x3 ||| ((1 : Int32) <<< (x4 &&& 31))) * 6) + x4) fun j2 =>
      am_b 6 x4 fun j3 =>
      am_r1 (am_g d 167 [vi (h (Int32.toNatClampNeg (h 79 0)) j2), vi ((h (Int32.toNatClampNeg (h 79 0)) j1) + (h (a1 + 4) j3))] h) fun h4 v5 =>
      am_b 384 (((x3 ||| ((1 : Int32) <<< (x4 &&& 31))) * 6) + x4) fun j6 =>
      rT_stayOrNot d n 9 [some (vr 4 79), some (vr 2 a1), some (vi x2), some (vi x3), some (vi (x4 + 1)), some (vi (h (Int32.toNatClampNeg (h 79 0)) j1)), some (vi (((x3 ||| ((1 : Int32) <<< (x4 &&& 31))) * 6) + x4))] (am_up h4 (Int32.toNatClampNeg (h 79 0)) j6 v5))
    else rT_stayOrNot d n 9 [some (vr 4 79), some (vr 2 a1), some (vi x2), some (vi x3), some (vi (x4 + 1)), some (vi (h (Int32.toNatClampNeg (h 79 0)) j1)), u6] h)
  else rT_stayOrNot d n 3 [some (vr 4 79), some (vr 2 a1), some (vi x2), some (vi (x3 + 1)), some (vi x4), u5, u6] h := qT_stayOrNot_9 (am_g d) n a1 x2 x3 x4 u5 u6 h
def rT_noteDone (d n i : Nat) (ls : am_L) (h : am_H) : am_Z := am_run 0 (fun _ => 0) cT_noteDone (am_g d) n i ls h
theorem gT_noteDone (d : Nat) (a1 : Nat) (x2 : Int32) (x3 : Int32) (h : am_H) : am_g (d + 1) 43 [vr 4 79, vr 2 a1, vi x2, vi x3] h =
  rT_noteDone d 999999 3 [some (vr 4 79), some (vr 2 a1), some (vi x2), some (vi x3), some (vi 0), none] h := (am_g_run (tb := cT_noteDone) rfl rfl (Nat.le_of_ble_eq_true rfl) rfl).trans (qT_noteDone_0 (am_g d) 999999 a1 x2 x3 h)
theorem tT_noteDone_3 (d n : Nat) (a1 : Nat) (x2 : Int32) (x3 : Int32) (x4 : Int32) (u5 : Option am_V) (h : am_H) : rT_noteDone d (n + 1) 3 [some (vr 4 79), some (vr 2 a1), some (vi x2), some (vi x3), some (vi x4), u5] h =
  if x4 < (h a1 14) then
    (am_b 384 ((x2 * 6) + x4) fun j1 =>
    if (h (Int32.toNatClampNeg (h 79 0)) j1) = 536870912 then
      (am_r1 (am_g d 167 [vi (h 79 2), vi (h (Int32.toNatClampNeg (h 79 0)) j1)] h) fun h2 v3 =>
      rT_noteDone d n 3 [some (vr 4 79), some (vr 2 a1), some (vi x2), some (vi x3), some (vi (x4 + 1)), some (vi (h (Int32.toNatClampNeg (h 79 0)) j1))] (am_up h2 79 2 v3))
    else if (h 79 3) = (-4) then
      (am_r1 (am_g d 167 [vi (h 79 2), vi (h (Int32.toNatClampNeg (h 79 0)) j1)] (am_up h 79 3 x3)) fun h4 v5 =>
      rT_noteDone d n 3 [some (vr 4 79), some (vr 2 a1), some (vi x2), some (vi x3), some (vi (x4 + 1)), some (vi (h (Int32.toNatClampNeg (h 79 0)) j1))] (am_up h4 79 2 v5))
    else am_r1 (am_g d 167 [vi (h 79 2), vi (h (Int32.toNatClampNeg (h 79 0)) j1)] h) fun h6 v7 =>
    rT_noteDone d n 3 [some (vr 4 79), some (vr 2 a1), some (vi x2), some (vi x3), some (vi (x4 + 1)), some (vi (h (Int32.toNatClampNeg (h 79 0)) j1))] (am_up h6 79 2 v7))
  else some (h, none) := qT_noteDone_3 (am_g d) n a1 x2 x3 x4 u5 h
def rW_begin (d n i : Nat) (ls : am_L) (h : am_H) : am_Z := am_run 0 (fun _ => 0) cW_begin (am_g d) n i ls h
theorem gW_begin (d : Nat) (x1 : Int32) (x2 : Int32) (h : am_H) : am_g (d + 1) 44 [vr 5 74, vi x1, vi x2] h =
  am_r0 (am_g d 168 [vr 106 75, vi 536870912] h) fun h1 =>
  am_r0 (am_g d 168 [vr 106 77, vi (-4)] h1) fun h2 =>
  am_b 6 x1 fun j3 =>
  some (am_up h2 75 j3 x2, none) := (am_g_run (tb := cW_begin) rfl rfl (Nat.le_of_ble_eq_true rfl) rfl).trans (qW_begin_0 (am_g d) 999999 x1 x2 h)
def rW_step (d n i : Nat) (ls : am_L) (h : am_H) : am_Z := am_run 0 (fun _ => 0) cW_step (am_g d) n i ls h
theorem gW_step (d : Nat) (a1 : Nat) (h : am_H) : am_g (d + 1) 45 [vr 5 74, vr 2 a1] h =
  am_r0 (am_g d 168 [vr 106 76, vi 536870912] h) fun h1 =>
  am_r0 (am_g d 168 [vr 106 78, vi (-4)] h1) fun h2 =>
  rW_step d 999999 11 [some (vr 5 74), some (vr 2 a1), some (vi 0)] h2 := (am_g_run (tb := cW_step) rfl rfl (Nat.le_of_ble_eq_true rfl) rfl).trans (qW_step_0 (am_g d) 999999 a1 h)
theorem tW_step_11 (d n : Nat) (a1 : Nat) (x2 : Int32) (h : am_H) : rW_step d (n + 1) 11 [some (vr 5 74), some (vr 2 a1), some (vi x2)] h =
  if x2 < (h a1 15) then
    (am_b 8 x2 fun j1 =>
    am_r0 (am_g d 46 [vr 5 74, vr 2 a1, vi x2, vi (h (a1 + 6) j1)] h) fun h2 =>
    am_b 8 x2 fun j3 =>
    am_r0 (am_g d 46 [vr 5 74, vr 2 a1, vi x2, vi (h2 (a1 + 7) j3)] h2) fun h4 =>
    rW_step d n 11 [some (vr 5 74), some (vr 2 a1), some (vi (x2 + 1))] h4)
  else some (va_up (va_up h 75 (va_cpy (h 76) (h 75) 0 0 6)) 77 (va_cpy ((va_up h 75 (va_cpy (h 76) (h 75) 0 0 6)) 78) ((va_up h 75 (va_cpy (h 76) (h 75) 0 0 6)) 77) 0 0 6), none) := qW_step_11 (am_g d) n a1 x2 h
def rW_offer (d n i : Nat) (ls : am_L) (h : am_H) : am_Z := am_run 0 (fun _ => 0) cW_offer (am_g d) n i ls h
theorem gW_offer (d : Nat) (a1 : Nat) (x2 : Int32) (x3 : Int32) (h : am_H) : am_g (d + 1) 46 [vr 5 74, vr 2 a1, vi x2, vi x3] h =
  am_b 6 x3 fun j1 =>
  if (h 75 j1) = 536870912 then
    (some (h, none))
  else am_r1 (am_g d 30 [vr 2 a1, vi x2, vi x3] h) fun h2 v3 =>
  am_b 6 x3 fun j4 =>
  am_r1 (am_g d 32 [vr 2 a1, vi x2, vi x3] h2) fun h5 v6 =>
  am_b 6 x3 fun j7 =>
  if (h5 77 j7) = (-4) then
    (am_b 6 v3 fun j8 =>
    if ((h2 75 j4) + v6) < (h5 76 j8) then
      (am_b 6 v3 fun j9 =>
      am_b 6 v3 fun j10 =>
      some (am_up (am_up h5 76 j9 ((h2 75 j4) + v6)) 78 j10 x2, none))
    else am_b 6 v3 fun j11 =>
    if ((h2 75 j4) + v6) = (h5 76 j11) then
      (am_b 6 v3 fun j12 =>
      if x2 < (h5 78 j12) then
        (am_b 6 v3 fun j13 =>
        am_b 6 v3 fun j14 =>
        some (am_up (am_up h5 76 j13 ((h2 75 j4) + v6)) 78 j14 x2, none))
      else some (h5, none))
    else some (h5, none))
  else am_b 6 x3 fun j15 =>
  am_b 6 v3 fun j16 =>
  if ((h2 75 j4) + v6) < (h5 76 j16) then
    (am_b 6 v3 fun j17 =>
    am_b 6 v3 fun j18 =>
    some (am_up (am_up h5 76 j17 ((h2 75 j4) + v6)) 78 j18 (h5 77 j15), none))
  else am_b 6 v3 fun j19 =>
  if ((h2 75 j4) + v6) = (h5 76 j19) then
    (am_b 6 v3 fun j20 =>
    if (h5 77 j15) < (h5 78 j20) then
      (am_b 6 v3 fun j21 =>
      am_b 6 v3 fun j22 =>
      some (am_up (am_up h5 76 j21 ((h2 75 j4) + v6)) 78 j22 (h5 77 j15), none))
    else some (h5, none))
  else some (h5, none) := (am_g_run (tb := cW_offer) rfl rfl (Nat.le_of_ble_eq_true rfl) rfl).trans (qW_offer_0 (am_g d) 999999 a1 x2 x3 h)
def rW_isEven (d n i : Nat) (ls : am_L) (h : am_H) : am_Z := am_run 0 (fun _ => 0) cW_isEven (am_g d) n i ls h
theorem gW_isEven (d : Nat) (a1 : Nat) (h : am_H) : am_g (d + 1) 47 [vr 5 74, vr 2 a1] h =
  am_r0 (am_g d 168 [vr 106 75, vi 536870912] h) fun h1 =>
  rW_isEven d 999999 7 [some (vr 5 74), some (vr 2 a1), some (vi 0)] h1 := (am_g_run (tb := cW_isEven) rfl rfl (Nat.le_of_ble_eq_true rfl) rfl).trans (qW_isEven_0 (am_g d) 999999 a1 h)
theorem tW_isEven_7 (d n : Nat) (a1 : Nat) (x2 : Int32) (h : am_H) : rW_isEven d (n + 1) 7 [some (vr 5 74), some (vr 2 a1), some (vi x2)] h =
  if x2 < (h a1 14) then
    (am_b 6 x2 fun j1 =>
    if (h 75 j1) = 536870912 then
      (am_b 6 x2 fun j2 =>
      am_r0 (am_g d 48 [vr 5 74, vr 2 a1] (am_up h 75 j2 0)) fun h3 =>
      rW_isEven d n 7 [some (vr 5 74), some (vr 2 a1), some (vi (x2 + 1))] h3)
    else rW_isEven d n 7 [some (vr 5 74), some (vr 2 a1), some (vi (x2 + 1))] h)
  else rW_isEven d n 30 [some (vr 5 74), some (vr 2 a1), some (vi 0)] h := qW_isEven_7 (am_g d) n a1 x2 h
theorem tW_isEven_30 (d n : Nat) (a1 : Nat) (x2 : Int32) (h : am_H) : rW_isEven d (n + 1) 30 [some (vr 5 74), some (vr 2 a1), some (vi x2)] h =
  if x2 < (h a1 15) then
    (am_b 8 x2 fun j1 =>
    am_b 6 (h (a1 + 7) j1) fun j2 =>
    am_b 8 x2 fun j3 =>
    am_b 6 (h (a1 + 6) j3) fun j4 =>
    am_b 8 x2 fun j5 =>
    if ((h 75 j2) - (h 75 j4)) = (h (a1 + 8) j5) then
      (rW_isEven d n 30 [some (vr 5 74), some (vr 2 a1), some (vi (x2 + 1))] h)
    else some (h, some 0))
  else some (h, some 1) := qW_isEven_30 (am_g d) n a1 x2 h
def rW_spread (d n i : Nat) (ls : am_L) (h : am_H) : am_Z := am_run 0 (fun _ => 0) cW_spread (am_g d) n i ls h
theorem gW_spread (d : Nat) (a1 : Nat) (h : am_H) : am_g (d + 1) 48 [vr 5 74, vr 2 a1] h =
  rW_spread d 999999 3 [some (vr 5 74), some (vr 2 a1), some (vi 1), none, none, none] h := (am_g_run (tb := cW_spread) rfl rfl (Nat.le_of_ble_eq_true rfl) rfl).trans (qW_spread_0 (am_g d) 999999 a1 h)
theorem tW_spread_3 (d n : Nat) (a1 : Nat) (x2 : Int32) (u3 : Option am_V) (u4 : Option am_V) (u5 : Option am_V) (h : am_H) : rW_spread d (n + 1) 3 [some (vr 5 74), some (vr 2 a1), some (vi x2), u3, u4, u5] h =
  if x2 < (h a1 14) then
    (rW_spread d n 10 [some (vr 5 74), some (vr 2 a1), some (vi x2), some (vi 0), u4, u5] h)
  else some (h, none) := qW_spread_3 (am_g d) n a1 x2 u3 u4 u5 h
theorem tW_spread_10 (d n : Nat) (a1 : Nat) (x2 : Int32) (x3 : Int32) (u4 : Option am_V) (u5 : Option am_V) (h : am_H) : rW_spread d (n + 1) 10 [some (vr 5 74), some (vr 2 a1), some (vi x2), some (vi x3), u4, u5] h =
  if x3 < (h a1 15) then
    (am_b 8 x3 fun j1 =>
    am_b 8 x3 fun j2 =>
    am_b 6 (h (a1 + 6) j1) fun j3 =>
    if (h 75 j3) = 536870912 then
      (am_b 6 (h (a1 + 7) j2) fun j4 =>
      if (h 75 j4) = 536870912 then
        (rW_spread d n 10 [some (vr 5 74), some (vr 2 a1), some (vi x2), some (vi (x3 + 1)), some (vi (h (a1 + 6) j1)), some (vi (h (a1 + 7) j2))] h)
      else am_b 6 (h (a1 + 6) j1) fun j5 =>
      if (h 75 j5) = 536870912 then
        (am_b 6 (h (a1 + 7) j2) fun j6 =>
        am_b 8 x3 fun j7 =>
        am_b 6 (h (a1 + 6) j1) fun j8 =>
        rW_spread d n 10 [some (vr 5 74), some (vr 2 a1), some (vi x2), some (vi (x3 + 1)), some (vi (h (a1 + 6) j1)), some (vi (h (a1 + 7) j2))] (am_up h 75 j8 ((h 75 j6) - (h (a1 + 8) j7))))
      else rW_spread d n 10 [some (vr 5 74), some (vr 2 a1), some (vi x2), some (vi (x3 + 1)), some (vi (h (a1 + 6) j1)), some (vi (h (a1 + 7) j2))] h)
    else am_b 6 (h (a1 + 7) j2) fun j9 =>
    if (h 75 j9) = 536870912 then
      (am_b 6 (h (a1 + 6) j1) fun j10 =>
      am_b 8 x3 fun j11 =>
      am_b 6 (h (a1 + 7) j2) fun j12 =>
      rW_spread d n 10 [some (vr 5 74), some (vr 2 a1), some (vi x2), some (vi (x3 + 1)), some (vi (h (a1 + 6) j1)), some (vi (h (a1 + 7) j2))] (am_up h 75 j12 ((h 75 j10) + (h (a1 + 8) j11))))
    else am_b 6 (h (a1 + 7) j2) fun j13 =>
    if (h 75 j13) = 536870912 then
      (rW_spread d n 10 [some (vr 5 74), some (vr 2 a1), some (vi x2), some (vi (x3 + 1)), some (vi (h (a1 + 6) j1)), some (vi (h (a1 + 7) j2))] h)
    else am_b 6 (h (a1 + 6) j1) fun j14 =>
    if (h 75 j14) = 536870912 then
      (am_b 6 (h (a1 + 7) j2) fun j15 =>
      am_b 8 x3 fun j16 =>
      am_b 6 (h (a1 + 6) j1) fun j17 =>
      rW_spread d n 10 [some (vr 5 74), some (vr 2 a1), some (vi x2), some (vi (x3 + 1)), some (vi (h (a1 + 6) j1)), some (vi (h (a1 + 7) j2))] (am_up h 75 j17 ((h 75 j15) - (h (a1 + 8) j16))))
    else rW_spread d n 10 [some (vr 5 74), some (vr 2 a1), some (vi x2), some (vi (x3 + 1)), some (vi (h (a1 + 6) j1)), some (vi (h (a1 + 7) j2))] h)
  else rW_spread d n 3 [some (vr 5 74), some (vr 2 a1), some (vi (x2 + 1)), some (vi x3), u4, u5] h := qW_spread_10 (am_g d) n a1 x2 x3 u4 u5 h
def rC_write (d n i : Nat) (ls : am_L) (h : am_H) : am_Z := am_run 0 (fun _ => 0) cC_write (am_g d) n i ls h
theorem gC_write (d : Nat) (x1 : Int32) (h : am_H) : am_g (d + 1) 49 [vr 6 0, vi x1] h =
  if x1 < 32 then
    (some (h, some (-1)))
  else if 126 < x1 then
    (some (h, some (-1)))
  else if (h 0 1) < 200 then
    (am_b 200 (h 0 1) fun j1 =>
    some (am_up (am_up h 1 j1 (vp_nar .char (am_i2c x1))) 0 1 ((h 0 1) + 1), some ((h 0 1) + 1)))
  else some (h, some (-3)) := (am_g_run (tb := cC_write) rfl rfl (Nat.le_of_ble_eq_true rfl) rfl).trans (qC_write_0 (am_g d) 999999 x1 h)
def rC_wipe (d n i : Nat) (ls : am_L) (h : am_H) : am_Z := am_run 0 (fun _ => 0) cC_wipe (am_g d) n i ls h
theorem gC_wipe (d : Nat)  (h : am_H) : am_g (d + 1) 50 [vr 6 0] h =
  some (am_up h 0 1 0, some (h 0 1)) := (am_g_run (tb := cC_wipe) rfl rfl (Nat.le_of_ble_eq_true rfl) rfl).trans (qC_wipe_0 (am_g d) 999999  h)
def rC_fault (d n i : Nat) (ls : am_L) (h : am_H) : am_Z := am_run 0 (fun _ => 0) cC_fault (am_g d) n i ls h
theorem gC_fault (d : Nat)  (h : am_H) : am_g (d + 1) 51 [vr 6 0] h =
  am_r1 (am_g d 18 [vr 2 (Int32.toNatClampNeg (h 0 3)), vr 9 1, vi (h 0 1)] h) fun h1 v2 =>
  some (h1, some v2) := (am_g_run (tb := cC_fault) rfl rfl (Nat.le_of_ble_eq_true rfl) rfl).trans (qC_fault_0 (am_g d) 999999  h)
def rC_lay (d n i : Nat) (ls : am_L) (h : am_H) : am_Z := am_run 0 (fun _ => 0) cC_lay (am_g d) n i ls h
theorem gC_lay (d : Nat)  (h : am_H) : am_g (d + 1) 52 [vr 6 0] h =
  am_r1 (am_g d 18 [vr 2 (Int32.toNatClampNeg (h 0 3)), vr 9 1, vi (h 0 1)] h) fun h1 v2 =>
  if v2 = (-4) then
    (if (h1 (Int32.toNatClampNeg (h1 0 3)) 16) = 0 then
      (some (h1, some (-2)))
    else am_r0 (am_g d 81 [vr 6 0] h1) fun h3 =>
    some (h3, some (h3 (Int32.toNatClampNeg (h3 0 2)) 14)))
  else some (h1, some (-2)) := (am_g_run (tb := cC_lay) rfl rfl (Nat.le_of_ble_eq_true rfl) rfl).trans (qC_lay_0 (am_g d) 999999  h)
def rC_room (d n i : Nat) (ls : am_L) (h : am_H) : am_Z := am_run 0 (fun _ => 0) cC_room (am_g d) n i ls h
theorem gC_room (d : Nat) (x1 : Int32) (x2 : Int32) (h : am_H) : am_g (d + 1) 53 [vr 6 0, vi x1, vi x2] h =
  am_r1 (am_g d 91 [vr 6 0, vi x1] h) fun h1 v2 =>
  if v2 = 0 then
    (some (h1, some (-1)))
  else if x2 = nI 0 then
    (am_b 6 x1 fun j3 =>
    some (h1, some (h1 ((Int32.toNatClampNeg (h1 0 2)) + 1) j3)))
  else if x2 = nI 1 then
    (am_b 6 x1 fun j4 =>
    some (h1, some (h1 ((Int32.toNatClampNeg (h1 0 2)) + 2) j4)))
  else if x2 = nI 2 then
    (am_b 6 x1 fun j5 =>
    some (h1, some (h1 ((Int32.toNatClampNeg (h1 0 2)) + 3) j5)))
  else if x2 = nI 3 then
    (am_b 6 x1 fun j6 =>
    some (h1, some (h1 ((Int32.toNatClampNeg (h1 0 2)) + 4) j6)))
  else some (h1, some (-1)) := (am_g_run (tb := cC_room) rfl rfl (Nat.le_of_ble_eq_true rfl) rfl).trans (qC_room_0 (am_g d) 999999 x1 x2 h)
def rC_clock (d n i : Nat) (ls : am_L) (h : am_H) : am_Z := am_run 0 (fun _ => 0) cC_clock (am_g d) n i ls h
theorem gC_clock (d : Nat) (x1 : Int32) (x2 : Int32) (x3 : Int32) (h : am_H) : am_g (d + 1) 54 [vr 6 0, vi x1, vi x2, vi x3] h =
  am_r1 (am_g d 91 [vr 6 0, vi x1] h) fun h1 v2 =>
  if v2 = 0 then
    (some (h1, some (-1)))
  else am_r1 (am_g d 90 [vi x2] h1) fun h3 v4 =>
  if v4 = 0 then
    (some (h3, some (-1)))
  else am_r1 (am_g d 89 [vi x3, vi 2] h3) fun h5 v6 =>
  if v6 = 0 then
    (some (h5, some (-1)))
  else am_b 6 x1 fun j7 =>
  am_b 6 x1 fun j8 =>
  am_b 6 x1 fun j9 =>
  am_r1 (am_g d 165 [vi (((h5 ((Int32.toNatClampNeg (h5 0 2)) + 3) j8) * (12 * (h5 ((Int32.toNatClampNeg (h5 0 2)) + 2) j7))) + (x2 * (h5 ((Int32.toNatClampNeg (h5 0 2)) + 1) j9))), vi (24 * (12 * (h5 ((Int32.toNatClampNeg (h5 0 2)) + 2) j7)))] h5) fun h10 v11 =>
  am_r1 (am_g d 87 [vi v11, vi (12 * (h5 ((Int32.toNatClampNeg (h5 0 2)) + 2) j7))] h10) fun h12 v13 =>
  if x3 = 0 then
    (if v13 = 0 then none else
    some (h12, some (v11 / v13)))
  else if v13 = 0 then none else
  some (h12, some ((12 * (h5 ((Int32.toNatClampNeg (h5 0 2)) + 2) j7)) / v13)) := (am_g_run (tb := cC_clock) rfl rfl (Nat.le_of_ble_eq_true rfl) rfl).trans (qC_clock_0 (am_g d) 999999 x1 x2 x3 h)
def rC_door (d n i : Nat) (ls : am_L) (h : am_H) : am_Z := am_run 0 (fun _ => 0) cC_door (am_g d) n i ls h
theorem gC_door (d : Nat) (x1 : Int32) (x2 : Int32) (h : am_H) : am_g (d + 1) 55 [vr 6 0, vi x1, vi x2] h =
  am_r1 (am_g d 92 [vr 6 0, vi x1] h) fun h1 v2 =>
  if v2 = 0 then
    (some (h1, some (-1)))
  else if x2 = nI 0 then
    (am_b 8 x1 fun j3 =>
    some (h1, some (h1 ((Int32.toNatClampNeg (h1 0 2)) + 6) j3)))
  else if x2 = nI 1 then
    (am_b 8 x1 fun j4 =>
    some (h1, some (h1 ((Int32.toNatClampNeg (h1 0 2)) + 7) j4)))
  else if x2 = nI 2 then
    (am_b 8 x1 fun j5 =>
    some (h1, some ((h1 ((Int32.toNatClampNeg (h1 0 2)) + 8) j5) + 24)))
  else some (h1, some (-1)) := (am_g_run (tb := cC_door) rfl rfl (Nat.le_of_ble_eq_true rfl) rfl).trans (qC_door_0 (am_g d) 999999 x1 x2 h)
def rC_person (d n i : Nat) (ls : am_L) (h : am_H) : am_Z := am_run 0 (fun _ => 0) cC_person (am_g d) n i ls h
theorem gC_person (d : Nat) (x1 : Int32) (x2 : Int32) (h : am_H) : am_g (d + 1) 56 [vr 6 0, vi x1, vi x2] h =
  am_r1 (am_g d 93 [vr 6 0, vi x1] h) fun h1 v2 =>
  if v2 = 0 then
    (some (h1, some (-1)))
  else if x2 = nI 0 then
    (am_b 4 x1 fun j3 =>
    some (h1, some (h1 33 j3)))
  else if x2 = nI 1 then
    (am_b 4 x1 fun j4 =>
    am_r1 (am_g d 88 [vi (h1 34 j4)] h1) fun h5 v6 =>
    some (h5, some v6))
  else if x2 = nI 2 then
    (am_b 4 x1 fun j7 =>
    some (h1, some (h1 35 j7)))
  else if x2 = nI 3 then
    (am_r1 (am_g d 15 [vr 1 32, vi x1] h1) fun h8 v9 =>
    some (h8, some v9))
  else if x2 = nI 4 then
    (am_r1 (am_g d 16 [vr 1 32, vi x1] h1) fun h10 v11 =>
    some (h10, some v11))
  else some (h1, some (-1)) := (am_g_run (tb := cC_person) rfl rfl (Nat.le_of_ble_eq_true rfl) rfl).trans (qC_person_0 (am_g d) 999999 x1 x2 h)
def rC_thing (d n i : Nat) (ls : am_L) (h : am_H) : am_Z := am_run 0 (fun _ => 0) cC_thing (am_g d) n i ls h
theorem gC_thing (d : Nat) (x1 : Int32) (x2 : Int32) (h : am_H) : am_g (d + 1) 57 [vr 6 0, vi x1, vi x2] h =
  am_r1 (am_g d 94 [vr 6 0, vi x1] h) fun h1 v2 =>
  if v2 = 0 then
    (some (h1, some (-1)))
  else if x2 = nI 0 then
    (am_b 5 x1 fun j3 =>
    some (h1, some (h1 ((Int32.toNatClampNeg (h1 0 2)) + 12) j3)))
  else if x2 = nI 1 then
    (am_b 5 x1 fun j4 =>
    some (h1, some (h1 ((Int32.toNatClampNeg (h1 0 2)) + 13) j4)))
  else if x2 = nI 2 then
    (am_b 5 x1 fun j5 =>
    some (h1, some (h1 37 j5)))
  else if x2 = nI 3 then
    (am_b 5 x1 fun j6 =>
    some (h1, some (h1 38 j6)))
  else if x2 = nI 4 then
    (am_b 5 x1 fun j7 =>
    if (h1 37 j7) = (-4) then
      (some (h1, some (-4)))
    else am_b 5 x1 fun j8 =>
    am_r1 (am_g d 88 [vi (h1 39 j8)] h1) fun h9 v10 =>
    some (h9, some v10))
  else if x2 = nI 5 then
    (am_b 5 x1 fun j11 =>
    some (h1, some ((h1 40 j11) / 144)))
  else some (h1, some (-1)) := (am_g_run (tb := cC_thing) rfl rfl (Nat.le_of_ble_eq_true rfl) rfl).trans (qC_thing_0 (am_g d) 999999 x1 x2 h)
def rC_worth (d n i : Nat) (ls : am_L) (h : am_H) : am_Z := am_run 0 (fun _ => 0) cC_worth (am_g d) n i ls h
theorem gC_worth (d : Nat) (x1 : Int32) (x2 : Int32) (h : am_H) : am_g (d + 1) 58 [vr 6 0, vi x1, vi x2] h =
  am_r1 (am_g d 94 [vr 6 0, vi x1] h) fun h1 v2 =>
  if v2 = 0 then
    (some (h1, some (-1)))
  else am_r1 (am_g d 90 [vi x2] h1) fun h3 v4 =>
  if v4 = 0 then
    (some (h3, some (-1)))
  else am_b 5 x1 fun j5 =>
  if (h3 37 j5) = (-4) then
    (some (h3, some (-2)))
  else am_b 5 x1 fun j6 =>
  if x2 < (h3 39 j6) then
    (some (h3, some (-2)))
  else am_r1 (am_g d 14 [vr 1 32, vi x1, vi x2] h3) fun h7 v8 =>
  am_r1 (am_g d 33 [vr 2 (Int32.toNatClampNeg (h3 0 2)), vi x1, vi v8] h7) fun h9 v10 =>
  some (h9, some v10) := (am_g_run (tb := cC_worth) rfl rfl (Nat.le_of_ble_eq_true rfl) rfl).trans (qC_worth_0 (am_g d) 999999 x1 x2 h)
def rC_stay (d n i : Nat) (ls : am_L) (h : am_H) : am_Z := am_run 0 (fun _ => 0) cC_stay (am_g d) n i ls h
theorem gC_stay (d : Nat) (x1 : Int32) (x2 : Int32) (h : am_H) : am_g (d + 1) 59 [vr 6 0, vi x1, vi x2] h =
  am_r1 (am_g d 93 [vr 6 0, vi x1] h) fun h1 v2 =>
  if v2 = 0 then
    (some (h1, some (-1)))
  else if x2 < 1 then
    (some (h1, some (-1)))
  else if 24 < x2 then
    (some (h1, some (-1)))
  else am_r1 (am_g d 83 [vr 6 0, vi 0, vi x1, vi x2] h1) fun h3 v4 =>
  if v4 = 0 then
    (some (h3, some (-3)))
  else am_b 4 x1 fun j5 =>
  am_r1 (am_g d 88 [vi (h3 34 j5)] h3) fun h6 v7 =>
  some (h6, some v7) := (am_g_run (tb := cC_stay) rfl rfl (Nat.le_of_ble_eq_true rfl) rfl).trans (qC_stay_0 (am_g d) 999999 x1 x2 h)
def rC_go (d n i : Nat) (ls : am_L) (h : am_H) : am_Z := am_run 0 (fun _ => 0) cC_go (am_g d) n i ls h
theorem gC_go (d : Nat) (x1 : Int32) (x2 : Int32) (h : am_H) : am_g (d + 1) 60 [vr 6 0, vi x1, vi x2] h =
  am_r1 (am_g d 93 [vr 6 0, vi x1] h) fun h1 v2 =>
  if v2 = 0 then
    (some (h1, some (-1)))
  else am_r1 (am_g d 92 [vr 6 0, vi x2] h1) fun h3 v4 =>
  if v4 = 0 then
    (some (h3, some (-1)))
  else am_r1 (am_g d 4 [vr 1 32, vi x1, vi x2] h3) fun h5 v6 =>
  if v6 = 0 then
    (some (h5, some (-2)))
  else am_r1 (am_g d 83 [vr 6 0, vi 1, vi x1, vi x2] h5) fun h7 v8 =>
  if v8 = 0 then
    (some (h7, some (-3)))
  else am_b 4 x1 fun j9 =>
  am_r1 (am_g d 88 [vi (h7 34 j9)] h7) fun h10 v11 =>
  some (h10, some v11) := (am_g_run (tb := cC_go) rfl rfl (Nat.le_of_ble_eq_true rfl) rfl).trans (qC_go_0 (am_g d) 999999 x1 x2 h)
def rC_take (d n i : Nat) (ls : am_L) (h : am_H) : am_Z := am_run 0 (fun _ => 0) cC_take (am_g d) n i ls h
theorem gC_take (d : Nat) (x1 : Int32) (x2 : Int32) (h : am_H) : am_g (d + 1) 61 [vr 6 0, vi x1, vi x2] h =
  am_r1 (am_g d 93 [vr 6 0, vi x1] h) fun h1 v2 =>
  if v2 = 0 then
    (some (h1, some (-1)))
  else am_r1 (am_g d 94 [vr 6 0, vi x2] h1) fun h3 v4 =>
  if v4 = 0 then
    (some (h3, some (-1)))
  else am_r1 (am_g d 5 [vr 1 32, vi x1, vi x2] h3) fun h5 v6 =>
  if v6 = 0 then
    (some (h5, some (-2)))
  else am_r1 (am_g d 83 [vr 6 0, vi 2, vi x1, vi x2] h5) fun h7 v8 =>
  if v8 = 0 then
    (some (h7, some (-3)))
  else am_r1 (am_g d 15 [vr 1 32, vi x1] h7) fun h9 v10 =>
  am_r1 (am_g d 164 [vi v10] h9) fun h11 v12 =>
  some (h11, some v12) := (am_g_run (tb := cC_take) rfl rfl (Nat.le_of_ble_eq_true rfl) rfl).trans (qC_take_0 (am_g d) 999999 x1 x2 h)
def rC_put (d n i : Nat) (ls : am_L) (h : am_H) : am_Z := am_run 0 (fun _ => 0) cC_put (am_g d) n i ls h
theorem gC_put (d : Nat) (x1 : Int32) (x2 : Int32) (h : am_H) : am_g (d + 1) 62 [vr 6 0, vi x1, vi x2] h =
  am_r1 (am_g d 93 [vr 6 0, vi x1] h) fun h1 v2 =>
  if v2 = 0 then
    (some (h1, some (-1)))
  else am_r1 (am_g d 94 [vr 6 0, vi x2] h1) fun h3 v4 =>
  if v4 = 0 then
    (some (h3, some (-1)))
  else am_r1 (am_g d 6 [vr 1 32, vi x1, vi x2] h3) fun h5 v6 =>
  if v6 = 0 then
    (some (h5, some (-2)))
  else am_r1 (am_g d 83 [vr 6 0, vi 3, vi x1, vi x2] h5) fun h7 v8 =>
  if v8 = 0 then
    (some (h7, some (-3)))
  else am_r1 (am_g d 15 [vr 1 32, vi x1] h7) fun h9 v10 =>
  am_r1 (am_g d 164 [vi v10] h9) fun h11 v12 =>
  some (h11, some v12) := (am_g_run (tb := cC_put) rfl rfl (Nat.le_of_ble_eq_true rfl) rfl).trans (qC_put_0 (am_g d) 999999 x1 x2 h)
def rC_undo (d n i : Nat) (ls : am_L) (h : am_H) : am_Z := am_run 0 (fun _ => 0) cC_undo (am_g d) n i ls h
theorem gC_undo (d : Nat)  (h : am_H) : am_g (d + 1) 63 [vr 6 0] h =
  if (h 58 3) = 0 then
    (some (h, some (-2)))
  else am_r0 (am_g d 82 [vr 6 0, vr 1 32, vi (-4)] (am_up h 58 3 ((h 58 3) - 1))) fun h1 =>
  some (h1, some (h1 58 3)) := (am_g_run (tb := cC_undo) rfl rfl (Nat.le_of_ble_eq_true rfl) rfl).trans (qC_undo_0 (am_g d) 999999  h)
def rC_meet (d n i : Nat) (ls : am_L) (h : am_H) : am_Z := am_run 0 (fun _ => 0) cC_meet (am_g d) n i ls h
theorem gC_meet (d : Nat) (x1 : Int32) (x2 : Int32) (x3 : Int32) (h : am_H) : am_g (d + 1) 64 [vr 6 0, vi x1, vi x2, vi x3] h =
  am_r1 (am_g d 93 [vr 6 0, vi x1] h) fun h1 v2 =>
  if v2 = 0 then
    (some (h1, some (-1)))
  else am_r1 (am_g d 93 [vr 6 0, vi x2] h1) fun h3 v4 =>
  if v4 = 0 then
    (some (h3, some (-1)))
  else am_r1 (am_g d 89 [vi x3, vi 2] h3) fun h5 v6 =>
  if v6 = 0 then
    (some (h5, some (-1)))
  else rC_meet d 999999 21 [some (vr 6 0), some (vi x1), some (vi x2), some (vi x3), some (vi 536870912), some (vi (-4)), some (vi 0), none, none, none] h5 := (am_g_run (tb := cC_meet) rfl rfl (Nat.le_of_ble_eq_true rfl) rfl).trans (qC_meet_0 (am_g d) 999999 x1 x2 x3 h)
theorem tC_meet_21 (d n : Nat) (x1 : Int32) (x2 : Int32) (x3 : Int32) (x4 : Int32) (x5 : Int32) (x6 : Int32) (u7 : Option am_V) (u8 : Option am_V) (u9 : Option am_V) (h : am_H) : rC_meet d (n + 1) 21 [some (vr 6 0), some (vi x1), some (vi x2), some (vi x3), some (vi x4), some (vi x5), some (vi x6), u7, u8, u9] h =
  if x6 < (h 32 14) then
    (rC_meet d n 29 [some (vr 6 0), some (vi x1), some (vi x2), some (vi x3), some (vi x4), some (vi x5), some (vi x6), some (vi 0), u8, u9] h)
  else if x4 = 536870912 then
    (some (h, some (-4)))
  else if x3 = 0 then
    (am_r1 (am_g d 88 [vi x4] h) fun h1 v2 =>
    some (h1, some v2))
  else some (h, some x5) := qC_meet_21 (am_g d) n x1 x2 x3 x4 x5 x6 u7 u8 u9 h
theorem tC_meet_29 (d n : Nat) (x1 : Int32) (x2 : Int32) (x3 : Int32) (x4 : Int32) (x5 : Int32) (x6 : Int32) (x7 : Int32) (u8 : Option am_V) (u9 : Option am_V) (h : am_H) : rC_meet d (n + 1) 29 [some (vr 6 0), some (vi x1), some (vi x2), some (vi x3), some (vi x4), some (vi x5), some (vi x6), some (vi x7), u8, u9] h =
  if x7 < (h 32 14) then
    (if x6 = x7 then
      (rC_meet d n 29 [some (vr 6 0), some (vi x1), some (vi x2), some (vi x3), some (vi x4), some (vi x5), some (vi x6), some (vi (x7 + 1)), u8, u9] h)
    else am_b 44 x6 fun j1 =>
    if (h 41 j1) = x1 then
      (am_b 44 x7 fun j2 =>
      if (h 41 j2) = x2 then
        (am_r1 (am_g d 17 [vr 1 32, vi x6, vi x7] h) fun h3 v4 =>
        am_b 44 x6 fun j5 =>
        if v4 < x4 then
          (rC_meet d n 29 [some (vr 6 0), some (vi x1), some (vi x2), some (vi x3), some (vi v4), some (vi (h3 42 j5)), some (vi x6), some (vi (x7 + 1)), some (vi v4), some (vi (h3 42 j5))] h3)
        else if v4 = x4 then
          (if v4 = 536870912 then
            (rC_meet d n 29 [some (vr 6 0), some (vi x1), some (vi x2), some (vi x3), some (vi x4), some (vi x5), some (vi x6), some (vi (x7 + 1)), some (vi v4), some (vi (h3 42 j5))] h3)
          else if (h3 42 j5) < x5 then
            (rC_meet d n 29 [some (vr 6 0), some (vi x1), some (vi x2), some (vi x3), some (vi v4), some (vi (h3 42 j5)), some (vi x6), some (vi (x7 + 1)), some (vi v4), some (vi (h3 42 j5))] h3)
          else rC_meet d n 29 [some (vr 6 0), some (vi x1), some (vi x2), some (vi x3), some (vi x4), some (vi x5), some (vi x6), some (vi (x7 + 1)), some (vi v4), some (vi (h3 42 j5))] h3)
        else rC_meet d n 29 [some (vr 6 0), some (vi x1), some (vi x2), some (vi x3), some (vi x4), some (vi x5), some (vi x6), some (vi (x7 + 1)), some (vi v4), some (vi (h3 42 j5))] h3)
      else rC_meet d n 29 [some (vr 6 0), some (vi x1), some (vi x2), some (vi x3), some (vi x4), some (vi x5), some (vi x6), some (vi (x7 + 1)), u8, u9] h)
    else rC_meet d n 29 [some (vr 6 0), some (vi x1), some (vi x2), some (vi x3), some (vi x4), some (vi x5), some (vi x6), some (vi (x7 + 1)), u8, u9] h)
  else rC_meet d n 21 [some (vr 6 0), some (vi x1), some (vi x2), some (vi x3), some (vi x4), some (vi x5), some (vi (x6 + 1)), some (vi x7), u8, u9] h := qC_meet_29 (am_g d) n x1 x2 x3 x4 x5 x6 x7 u8 u9 h
def rC_early (d n i : Nat) (ls : am_L) (h : am_H) : am_Z := am_run 0 (fun _ => 0) cC_early (am_g d) n i ls h
theorem gC_early (d : Nat) (x1 : Int32) (x2 : Int32) (x3 : Int32) (x4 : Int32) (h : am_H) : am_g (d + 1) 65 [vr 6 0, vi x1, vi x2, vi x3, vi x4] h =
  am_r1 (am_g d 93 [vr 6 0, vi x1] h) fun h1 v2 =>
  if v2 = 0 then
    (some (h1, some (-1)))
  else am_r1 (am_g d 91 [vr 6 0, vi x2] h1) fun h3 v4 =>
  if v4 = 0 then
    (some (h3, some (-1)))
  else if x3 < 0 then
    (some (h3, some (-1)))
  else if 8 < x3 then
    (some (h3, some (-1)))
  else am_r1 (am_g d 89 [vi x4, vi 3] h3) fun h5 v6 =>
  if v6 = 0 then
    (some (h5, some (-1)))
  else am_b 4 x1 fun j7 =>
  am_b 4 x1 fun j8 =>
  am_r0 (am_g d 44 [vr 5 74, vi (h5 33 j7), vi (h5 34 j8)] h5) fun h9 =>
  rC_early d 999999 41 [some (vr 6 0), some (vi x1), some (vi x2), some (vi x3), some (vi x4), some (vi 536870912), some (vi (-4)), some (vi (-4)), some (vi 0)] h9 := (am_g_run (tb := cC_early) rfl rfl (Nat.le_of_ble_eq_true rfl) rfl).trans (qC_early_0 (am_g d) 999999 x1 x2 x3 x4 h)
theorem tC_early_41 (d n : Nat) (x1 : Int32) (x2 : Int32) (x3 : Int32) (x4 : Int32) (x5 : Int32) (x6 : Int32) (x7 : Int32) (x8 : Int32) (h : am_H) : rC_early d (n + 1) 41 [some (vr 6 0), some (vi x1), some (vi x2), some (vi x3), some (vi x4), some (vi x5), some (vi x6), some (vi x7), some (vi x8)] h =
  if x3 < x8 then
    (if x5 = 536870912 then
      (some (h, some (-4)))
    else if x4 = 0 then
      (am_r1 (am_g d 88 [vi x5] h) fun h1 v2 =>
      some (h1, some v2))
    else if x4 = 1 then
      (some (h, some x6))
    else some (h, some x7))
  else am_b 6 x2 fun j3 =>
  if (h 75 j3) < x5 then
    (am_b 6 x2 fun j4 =>
    am_b 6 x2 fun j5 =>
    am_r0 (am_g d 45 [vr 5 74, vr 2 (Int32.toNatClampNeg (h 0 2))] h) fun h6 =>
    rC_early d n 41 [some (vr 6 0), some (vi x1), some (vi x2), some (vi x3), some (vi x4), some (vi (h 75 j4)), some (vi x8), some (vi (h 77 j5)), some (vi (x8 + 1))] h6)
  else am_r0 (am_g d 45 [vr 5 74, vr 2 (Int32.toNatClampNeg (h 0 2))] h) fun h7 =>
  rC_early d n 41 [some (vr 6 0), some (vi x1), some (vi x2), some (vi x3), some (vi x4), some (vi x5), some (vi x6), some (vi x7), some (vi (x8 + 1))] h7 := qC_early_41 (am_g d) n x1 x2 x3 x4 x5 x6 x7 x8 h
def rC_ring (d n i : Nat) (ls : am_L) (h : am_H) : am_Z := am_run 0 (fun _ => 0) cC_ring (am_g d) n i ls h
theorem gC_ring (d : Nat) (x1 : Int32) (h : am_H) : am_g (d + 1) 66 [vr 6 0, vi x1] h =
  am_r1 (am_g d 89 [vi x1, vi 3] h) fun h1 v2 =>
  if v2 = 0 then
    (some (h1, some (-1)))
  else rC_ring d 999999 15 [some (vr 6 0), some (vi x1), some (vi 9), some (vi (-4)), some (vi (-4)), some (vi 0), none] h1 := (am_g_run (tb := cC_ring) rfl rfl (Nat.le_of_ble_eq_true rfl) rfl).trans (qC_ring_0 (am_g d) 999999 x1 h)
theorem tC_ring_15 (d n : Nat) (x1 : Int32) (x2 : Int32) (x3 : Int32) (x4 : Int32) (x5 : Int32) (u6 : Option am_V) (h : am_H) : rC_ring d (n + 1) 15 [some (vr 6 0), some (vi x1), some (vi x2), some (vi x3), some (vi x4), some (vi x5), u6] h =
  if x5 < (h (Int32.toNatClampNeg (h 0 2)) 14) then
    (am_r0 (am_g d 44 [vr 5 74, vi x5, vi 0] h) fun h1 =>
    rC_ring d n 28 [some (vr 6 0), some (vi x1), some (vi x2), some (vi x3), some (vi x4), some (vi x5), some (vi 1)] h1)
  else if x3 = (-4) then
    (some (h, some (-4)))
  else if x1 = 0 then
    (some (h, some x2))
  else if x1 = 1 then
    (some (h, some x3))
  else some (h, some x4) := qC_ring_15 (am_g d) n x1 x2 x3 x4 x5 u6 h
theorem tC_ring_28 (d n : Nat) (x1 : Int32) (x2 : Int32) (x3 : Int32) (x4 : Int32) (x5 : Int32) (x6 : Int32) (h : am_H) : rC_ring d (n + 1) 28 [some (vr 6 0), some (vi x1), some (vi x2), some (vi x3), some (vi x4), some (vi x5), some (vi x6)] h =
  if x6 < x2 then
    (am_r0 (am_g d 45 [vr 5 74, vr 2 (Int32.toNatClampNeg (h 0 2))] h) fun h1 =>
    am_b 6 x5 fun j2 =>
    if (h1 75 j2) < 0 then
      (am_b 6 x5 fun j3 =>
      rC_ring d n 28 [some (vr 6 0), some (vi x1), some (vi x6), some (vi x5), some (vi (-(h1 75 j3))), some (vi x5), some (vi (x6 + 1))] h1)
    else rC_ring d n 28 [some (vr 6 0), some (vi x1), some (vi x2), some (vi x3), some (vi x4), some (vi x5), some (vi (x6 + 1))] h1)
  else rC_ring d n 15 [some (vr 6 0), some (vi x1), some (vi x2), some (vi x3), some (vi x4), some (vi (x5 + 1)), some (vi x6)] h := qC_ring_28 (am_g d) n x1 x2 x3 x4 x5 x6 h
def rC_even (d n i : Nat) (ls : am_L) (h : am_H) : am_Z := am_run 0 (fun _ => 0) cC_even (am_g d) n i ls h
theorem gC_even (d : Nat)  (h : am_H) : am_g (d + 1) 67 [vr 6 0] h =
  am_r1 (am_g d 47 [vr 5 74, vr 2 (Int32.toNatClampNeg (h 0 2))] h) fun h1 v2 =>
  if v2 = 0 then
    (some (h1, some 0))
  else some (h1, some 1) := (am_g_run (tb := cC_even) rfl rfl (Nat.le_of_ble_eq_true rfl) rfl).trans (qC_even_0 (am_g d) 999999  h)
def rC_round (d n i : Nat) (ls : am_L) (h : am_H) : am_Z := am_run 0 (fun _ => 0) cC_round (am_g d) n i ls h
theorem gC_round (d : Nat) (x1 : Int32) (x2 : Int32) (x3 : Int32) (h : am_H) : am_g (d + 1) 68 [vr 6 0, vi x1, vi x2, vi x3] h =
  am_r1 (am_g d 93 [vr 6 0, vi x1] h) fun h1 v2 =>
  if v2 = 0 then
    (some (h1, some (-1)))
  else if x2 < 0 then
    (some (h1, some (-1)))
  else if x2 < ((1 : Int32) <<< ((h1 (Int32.toNatClampNeg (h1 0 2)) 14) &&& 31)) then
    (am_r1 (am_g d 89 [vi x3, vi 2] h1) fun h3 v4 =>
    if v4 = 0 then
      (some (h3, some (-1)))
    else am_b 4 x1 fun j5 =>
    am_b 4 x1 fun j6 =>
    am_r0 (am_g d 39 [vr 4 79, vr 2 (Int32.toNatClampNeg (h3 0 2)), vi x2, vi (h3 33 j5), vi (h3 34 j6)] h3) fun h7 =>
    if (h7 79 3) = (-4) then
      (some (h7, some (-4)))
    else if x3 = 0 then
      (am_r1 (am_g d 88 [vi (h7 79 2)] h7) fun h8 v9 =>
      some (h8, some v9))
    else some (h7, some (h7 79 3)))
  else some (h1, some (-1)) := (am_g_run (tb := cC_round) rfl rfl (Nat.le_of_ble_eq_true rfl) rfl).trans (qC_round_0 (am_g d) 999999 x1 x2 x3 h)
def rC_hour (d n i : Nat) (ls : am_L) (h : am_H) : am_Z := am_run 0 (fun _ => 0) cC_hour (am_g d) n i ls h
theorem gC_hour (d : Nat) (x1 : Int32) (x2 : Int32) (x3 : Int32) (h : am_H) : am_g (d + 1) 69 [vr 6 0, vi x1, vi x2, vi x3] h =
  am_r1 (am_g d 93 [vr 6 0, vi x1] h) fun h1 v2 =>
  if v2 = 0 then
    (some (h1, some (-1)))
  else am_r1 (am_g d 89 [vi x2, vi 24] h1) fun h3 v4 =>
  if v4 = 0 then
    (some (h3, some (-1)))
  else am_b 4 x1 fun j5 =>
  am_b 4 x1 fun j6 =>
  if x3 = nI 0 then
    (am_r1 (am_g d 85 [vi (h3 34 j6), vi (x2 * 12), vi 12] h3) fun h7 v8 =>
    am_r1 (am_g d 88 [vi v8] h7) fun h9 v10 =>
    some (h9, some v10))
  else if x3 = nI 1 then
    (am_b 6 (h3 33 j5) fun j11 =>
    am_b 6 (h3 33 j5) fun j12 =>
    am_b 6 (h3 33 j5) fun j13 =>
    am_r1 (am_g d 85 [vi (h3 34 j6), vi ((x2 - (h3 ((Int32.toNatClampNeg (h3 0 2)) + 3) j11)) * (h3 ((Int32.toNatClampNeg (h3 0 2)) + 4) j12)), vi (h3 ((Int32.toNatClampNeg (h3 0 2)) + 4) j13)] h3) fun h14 v15 =>
    am_r1 (am_g d 88 [vi v15] h14) fun h16 v17 =>
    some (h16, some v17))
  else if x3 = nI 2 then
    (am_r1 (am_g d 84 [vr 6 0, vi x1, vi x2] h3) fun h18 v19 =>
    am_r1 (am_g d 88 [vi v19] h18) fun h20 v21 =>
    some (h20, some v21))
  else some (h3, some (-1)) := (am_g_run (tb := cC_hour) rfl rfl (Nat.le_of_ble_eq_true rfl) rfl).trans (qC_hour_0 (am_g d) 999999 x1 x2 x3 h)
def rC_agreed (d n i : Nat) (ls : am_L) (h : am_H) : am_Z := am_run 0 (fun _ => 0) cC_agreed (am_g d) n i ls h
theorem gC_agreed (d : Nat) (x1 : Int32) (x2 : Int32) (x3 : Int32) (h : am_H) : am_g (d + 1) 70 [vr 6 0, vi x1, vi x2, vi x3] h =
  am_r1 (am_g d 93 [vr 6 0, vi x1] h) fun h1 v2 =>
  if v2 = 0 then
    (some (h1, some (-1)))
  else am_r1 (am_g d 93 [vr 6 0, vi x2] h1) fun h3 v4 =>
  if v4 = 0 then
    (some (h3, some (-1)))
  else if x1 = x2 then
    (some (h3, some (-1)))
  else am_r1 (am_g d 89 [vi x3, vi 24] h3) fun h5 v6 =>
  if v6 = 0 then
    (some (h5, some (-1)))
  else am_r1 (am_g d 84 [vr 6 0, vi x2, vi x3] h5) fun h7 v8 =>
  am_b 4 x1 fun j9 =>
  am_b 6 (h7 33 j9) fun j10 =>
  am_b 4 x2 fun j11 =>
  am_b 6 (h7 33 j11) fun j12 =>
  if (24 * (h7 ((Int32.toNatClampNeg (h7 0 2)) + 4) j10)) < 1 then
    (some (h7, some (-4)))
  else if (24 * (h7 ((Int32.toNatClampNeg (h7 0 2)) + 4) j12)) < 1 then
    (some (h7, some (-4)))
  else am_r1 (am_g d 84 [vr 6 0, vi x1, vi x3] h7) fun h13 v14 =>
  rC_agreed d 999999 60 [some (vr 6 0), some (vi x1), some (vi x2), some (vi x3), some (vi v8), some (vi (24 * (h7 ((Int32.toNatClampNeg (h7 0 2)) + 4) j10))), some (vi (24 * (h7 ((Int32.toNatClampNeg (h7 0 2)) + 4) j12))), some (vi v14)] h13 := (am_g_run (tb := cC_agreed) rfl rfl (Nat.le_of_ble_eq_true rfl) rfl).trans (qC_agreed_0 (am_g d) 999999 x1 x2 x3 h)
theorem tC_agreed_60 (d n : Nat) (x1 : Int32) (x2 : Int32) (x3 : Int32) (x4 : Int32) (x5 : Int32) (x6 : Int32) (x7 : Int32) (h : am_H) : rC_agreed d (n + 1) 60 [some (vr 6 0), some (vi x1), some (vi x2), some (vi x3), some (vi x4), some (vi x5), some (vi x6), some (vi x7)] h =
  if 9999 < x7 then
    (some (h, some (-4)))
  else if x7 < x4 then
    (rC_agreed d n 60 [some (vr 6 0), some (vi x1), some (vi x2), some (vi x3), some (vi x4), some (vi x5), some (vi x6), some (vi (x7 + x5))] h)
  else if x6 = 0 then none else
  if (am_rem (x7 - x4) x6) = 0 then
    (am_r1 (am_g d 88 [vi x7] h) fun h1 v2 =>
    some (h1, some v2))
  else rC_agreed d n 60 [some (vr 6 0), some (vi x1), some (vi x2), some (vi x3), some (vi x4), some (vi x5), some (vi x6), some (vi (x7 + x5))] h := qC_agreed_60 (am_g d) n x1 x2 x3 x4 x5 x6 x7 h
def rC_shelf (d n i : Nat) (ls : am_L) (h : am_H) : am_Z := am_run 0 (fun _ => 0) cC_shelf (am_g d) n i ls h
theorem gC_shelf (d : Nat) (x1 : Int32) (x2 : Int32) (h : am_H) : am_g (d + 1) 71 [vr 6 0, vi x1, vi x2] h =
  am_r1 (am_g d 94 [vr 6 0, vi x1] h) fun h1 v2 =>
  if v2 = 0 then
    (some (h1, some (-1)))
  else if x2 < 1 then
    (some (h1, some (-1)))
  else if 99 < x2 then
    (some (h1, some (-1)))
  else rC_shelf d 999999 19 [some (vr 6 0), some (vi x1), some (vi x2), some (vi (-4)), some (vi (-1)), some (vi 0), none, none] h1 := (am_g_run (tb := cC_shelf) rfl rfl (Nat.le_of_ble_eq_true rfl) rfl).trans (qC_shelf_0 (am_g d) 999999 x1 x2 h)
theorem tC_shelf_19 (d n : Nat) (x1 : Int32) (x2 : Int32) (x3 : Int32) (x4 : Int32) (x5 : Int32) (u6 : Option am_V) (u7 : Option am_V) (h : am_H) : rC_shelf d (n + 1) 19 [some (vr 6 0), some (vi x1), some (vi x2), some (vi x3), some (vi x4), some (vi x5), u6, u7] h =
  if x5 < (h (Int32.toNatClampNeg (h 0 2)) 14) then
    (am_b 5 x1 fun j1 =>
    am_b 6 x5 fun j2 =>
    am_r1 (am_g d 33 [vr 2 (Int32.toNatClampNeg (h 0 2)), vi x1, vi ((h 40 j1) + ((x2 * 12) * (h ((Int32.toNatClampNeg (h 0 2)) + 5) j2)))] h) fun h3 v4 =>
    if x4 < v4 then
      (rC_shelf d n 19 [some (vr 6 0), some (vi x1), some (vi x2), some (vi x5), some (vi v4), some (vi (x5 + 1)), some (vi ((h 40 j1) + ((x2 * 12) * (h ((Int32.toNatClampNeg (h 0 2)) + 5) j2)))), some (vi v4)] h3)
    else rC_shelf d n 19 [some (vr 6 0), some (vi x1), some (vi x2), some (vi x3), some (vi x4), some (vi (x5 + 1)), some (vi ((h 40 j1) + ((x2 * 12) * (h ((Int32.toNatClampNeg (h 0 2)) + 5) j2)))), some (vi v4)] h3)
  else some (h, some x3) := qC_shelf_19 (am_g d) n x1 x2 x3 x4 x5 u6 u7 h
def rC_seen (d n i : Nat) (ls : am_L) (h : am_H) : am_Z := am_run 0 (fun _ => 0) cC_seen (am_g d) n i ls h
theorem gC_seen (d : Nat) (x1 : Int32) (x2 : Int32) (x3 : Int32) (h : am_H) : am_g (d + 1) 72 [vr 6 0, vi x1, vi x2, vi x3] h =
  am_r1 (am_g d 91 [vr 6 0, vi x1] h) fun h1 v2 =>
  if v2 = 0 then
    (some (h1, some (-1)))
  else if x2 < 1 then
    (some (h1, some (-1)))
  else if 99 < x2 then
    (some (h1, some (-1)))
  else if x3 < 0 then
    (some (h1, some (-1)))
  else if 400 < x3 then
    (some (h1, some (-1)))
  else am_r1 (am_g d 34 [vr 3 70, vi x1, vi x2, vi x3] h1) fun h3 v4 =>
  if v4 = 0 then
    (some (h3, some (-3)))
  else some (h3, some (h3 70 3)) := (am_g_run (tb := cC_seen) rfl rfl (Nat.le_of_ble_eq_true rfl) rfl).trans (qC_seen_0 (am_g d) 999999 x1 x2 x3 h)
def rC_forget (d n i : Nat) (ls : am_L) (h : am_H) : am_Z := am_run 0 (fun _ => 0) cC_forget (am_g d) n i ls h
theorem gC_forget (d : Nat)  (h : am_H) : am_g (d + 1) 73 [vr 6 0] h =
  some (am_up h 70 3 0, some (h 70 3)) := (am_g_run (tb := cC_forget) rfl rfl (Nat.le_of_ble_eq_true rfl) rfl).trans (qC_forget_0 (am_g d) 999999  h)
def rC_paces (d n i : Nat) (ls : am_L) (h : am_H) : am_Z := am_run 0 (fun _ => 0) cC_paces (am_g d) n i ls h
theorem gC_paces (d : Nat) (x1 : Int32) (h : am_H) : am_g (d + 1) 74 [vr 6 0, vi x1] h =
  am_r1 (am_g d 91 [vr 6 0, vi x1] h) fun h1 v2 =>
  if v2 = 0 then
    (some (h1, some (-1)))
  else am_r1 (am_g d 35 [vr 3 70, vi x1] h1) fun h3 v4 =>
  some (h3, some v4) := (am_g_run (tb := cC_paces) rfl rfl (Nat.le_of_ble_eq_true rfl) rfl).trans (qC_paces_0 (am_g d) 999999 x1 h)
def rC_look (d n i : Nat) (ls : am_L) (h : am_H) : am_Z := am_run 0 (fun _ => 0) cC_look (am_g d) n i ls h
theorem gC_look (d : Nat) (x1 : Int32) (x2 : Int32) (h : am_H) : am_g (d + 1) 75 [vr 6 0, vi x1, vi x2] h =
  am_r1 (am_g d 91 [vr 6 0, vi x1] h) fun h1 v2 =>
  if v2 = 0 then
    (some (h1, some (-1)))
  else am_r1 (am_g d 89 [vi x2, vi 2] h1) fun h3 v4 =>
  if v4 = 0 then
    (some (h3, some (-1)))
  else am_r1 (am_g d 35 [vr 3 70, vi x1] h3) fun h5 v6 =>
  if v6 = 0 then
    (some (h5, some (-4)))
  else rC_look d 999999 26 [some (vr 6 0), some (vi x1), some (vi x2), some (vi v6), some (vi (-4)), some (vi 536870912), some (vi 1), none] h5 := (am_g_run (tb := cC_look) rfl rfl (Nat.le_of_ble_eq_true rfl) rfl).trans (qC_look_0 (am_g d) 999999 x1 x2 h)
theorem tC_look_26 (d n : Nat) (x1 : Int32) (x2 : Int32) (x3 : Int32) (x4 : Int32) (x5 : Int32) (x6 : Int32) (u7 : Option am_V) (h : am_H) : rC_look d (n + 1) 26 [some (vr 6 0), some (vi x1), some (vi x2), some (vi x3), some (vi x4), some (vi x5), some (vi x6), u7] h =
  if 24 < x6 then
    (if x2 = 0 then
      (some (h, some x4))
    else some (h, some x5))
  else am_r1 (am_g d 37 [vr 3 70, vi x3, vi x6] h) fun h1 v2 =>
  if v2 < x5 then
    (rC_look d n 26 [some (vr 6 0), some (vi x1), some (vi x2), some (vi x3), some (vi x6), some (vi v2), some (vi (x6 + 1)), some (vi v2)] h1)
  else rC_look d n 26 [some (vr 6 0), some (vi x1), some (vi x2), some (vi x3), some (vi x4), some (vi x5), some (vi (x6 + 1)), some (vi v2)] h1 := qC_look_26 (am_g d) n x1 x2 x3 x4 x5 x6 u7 h
def rC_mended (d n i : Nat) (ls : am_L) (h : am_H) : am_Z := am_run 0 (fun _ => 0) cC_mended (am_g d) n i ls h
theorem gC_mended (d : Nat) (x1 : Int32) (h : am_H) : am_g (d + 1) 76 [vr 6 0, vi x1] h =
  am_r1 (am_g d 91 [vr 6 0, vi x1] h) fun h1 v2 =>
  if v2 = 0 then
    (some (h1, some (-1)))
  else am_r0 (am_g d 82 [vr 6 0, vr 1 45, vi x1] h1) fun h3 =>
  rC_mended d 999999 16 [some (vr 6 0), some (vi x1), some (vi 0), some (vi 0)] h3 := (am_g_run (tb := cC_mended) rfl rfl (Nat.le_of_ble_eq_true rfl) rfl).trans (qC_mended_0 (am_g d) 999999 x1 h)
theorem tC_mended_16 (d n : Nat) (x1 : Int32) (x2 : Int32) (x3 : Int32) (h : am_H) : rC_mended d (n + 1) 16 [some (vr 6 0), some (vi x1), some (vi x2), some (vi x3)] h =
  if x3 < (h (Int32.toNatClampNeg (h 0 2)) 16) then
    (am_b 4 x3 fun j1 =>
    am_b 4 x3 fun j2 =>
    if (h 47 j1) = (h 34 j2) then
      (rC_mended d n 16 [some (vr 6 0), some (vi x1), some (vi x2), some (vi (x3 + 1))] h)
    else rC_mended d n 16 [some (vr 6 0), some (vi x1), some (vi (x2 ||| ((1 : Int32) <<< (x3 &&& 31)))), some (vi (x3 + 1))] h)
  else some (h, some x2) := qC_mended_16 (am_g d) n x1 x2 x3 h
def rC_day (d n i : Nat) (ls : am_L) (h : am_H) : am_Z := am_run 0 (fun _ => 0) cC_day (am_g d) n i ls h
theorem gC_day (d : Nat) (x1 : Int32) (x2 : Int32) (x3 : Int32) (h : am_H) : am_g (d + 1) 77 [vr 6 0, vi x1, vi x2, vi x3] h =
  am_r1 (am_g d 89 [vi x1, vi 10000] h) fun h1 v2 =>
  if v2 = 0 then
    (some (h1, some (-1)))
  else am_r1 (am_g d 93 [vr 6 0, vi x2] h1) fun h3 v4 =>
  if v4 = 0 then
    (some (h3, some (-1)))
  else am_r1 (am_g d 89 [vi x3, vi 2] h3) fun h5 v6 =>
  if v6 = 0 then
    (some (h5, some (-1)))
  else am_b 4 x2 fun j7 =>
  am_b 4 x2 fun j8 =>
  rC_day d 999999 29 [some (vr 6 0), some (vi x1), some (vi x2), some (vi x3), some (vi (h5 33 j7)), some (vi (h5 34 j8)), some (vi 0), none, none] h5 := (am_g_run (tb := cC_day) rfl rfl (Nat.le_of_ble_eq_true rfl) rfl).trans (qC_day_0 (am_g d) 999999 x1 x2 x3 h)
theorem tC_day_29 (d n : Nat) (x1 : Int32) (x2 : Int32) (x3 : Int32) (x4 : Int32) (x5 : Int32) (x6 : Int32) (u7 : Option am_V) (u8 : Option am_V) (h : am_H) : rC_day d (n + 1) 29 [some (vr 6 0), some (vi x1), some (vi x2), some (vi x3), some (vi x4), some (vi x5), some (vi x6), u7, u8] h =
  if x6 < 12 then
    (am_r1 (am_g d 86 [vi x1, vi x6] h) fun h1 v2 =>
    if (am_rem v2 3) = 0 then
      (am_b 6 x4 fun j3 =>
      rC_day d n 29 [some (vr 6 0), some (vi x1), some (vi x2), some (vi x3), some (vi x4), some (vi (x5 + (((am_rem (v2 / 4) 3) + 1) * (h1 ((Int32.toNatClampNeg (h1 0 2)) + 4) j3)))), some (vi (x6 + 1)), some (vi v2), u8] h1)
    else if 0 < (h1 (Int32.toNatClampNeg (h1 0 2)) 15) then
      (if h1 (Int32.toNatClampNeg (h1 0 2)) 15 = 0 then none else
      am_r1 (am_g d 29 [vr 2 (Int32.toNatClampNeg (h1 0 2)), vi (am_rem (v2 / 8) (h1 (Int32.toNatClampNeg (h1 0 2)) 15)), vi x4] h1) fun h4 v5 =>
      if v5 = 0 then
        (rC_day d n 29 [some (vr 6 0), some (vi x1), some (vi x2), some (vi x3), some (vi x4), some (vi x5), some (vi (x6 + 1)), some (vi v2), some (vi (am_rem (v2 / 8) (h1 (Int32.toNatClampNeg (h1 0 2)) 15)))] h4)
      else am_r1 (am_g d 32 [vr 2 (Int32.toNatClampNeg (h4 0 2)), vi (am_rem (v2 / 8) (h1 (Int32.toNatClampNeg (h1 0 2)) 15)), vi x4] h4) fun h6 v7 =>
      am_r1 (am_g d 30 [vr 2 (Int32.toNatClampNeg (h6 0 2)), vi (am_rem (v2 / 8) (h1 (Int32.toNatClampNeg (h1 0 2)) 15)), vi x4] h6) fun h8 v9 =>
      rC_day d n 29 [some (vr 6 0), some (vi x1), some (vi x2), some (vi x3), some (vi v9), some (vi (x5 + v7)), some (vi (x6 + 1)), some (vi v2), some (vi (am_rem (v2 / 8) (h1 (Int32.toNatClampNeg (h1 0 2)) 15)))] h8)
    else rC_day d n 29 [some (vr 6 0), some (vi x1), some (vi x2), some (vi x3), some (vi x4), some (vi x5), some (vi (x6 + 1)), some (vi v2), u8] h1)
  else if x3 = 0 then
    (am_r1 (am_g d 88 [vi x5] h) fun h10 v11 =>
    some (h10, some v11))
  else some (h, some x4) := qC_day_29 (am_g d) n x1 x2 x3 x4 x5 x6 u7 u8 h
def rC_keep (d n i : Nat) (ls : am_L) (h : am_H) : am_Z := am_run 0 (fun _ => 0) cC_keep (am_g d) n i ls h
theorem gC_keep (d : Nat)  (h : am_H) : am_g (d + 1) 78 [vr 6 0] h =
  if (h 0 9) < 2 then
    (if (h 0 9) = 0 then
      (am_r0 (am_g d 1 [vr 0 62, vr 0 58] h) fun h1 =>
      some (am_up h1 0 9 ((h1 0 9) + 1), some ((h1 0 9) + 1)))
    else am_r0 (am_g d 1 [vr 0 66, vr 0 58] h) fun h2 =>
    some (am_up h2 0 9 ((h2 0 9) + 1), some ((h2 0 9) + 1)))
  else some (h, some (-3)) := (am_g_run (tb := cC_keep) rfl rfl (Nat.le_of_ble_eq_true rfl) rfl).trans (qC_keep_0 (am_g d) 999999  h)
def rC_back (d n i : Nat) (ls : am_L) (h : am_H) : am_Z := am_run 0 (fun _ => 0) cC_back (am_g d) n i ls h
theorem gC_back (d : Nat)  (h : am_H) : am_g (d + 1) 79 [vr 6 0] h =
  if (h 0 9) = 0 then
    (some (h, some (-2)))
  else if ((h 0 9) - 1) = 0 then
    (am_r0 (am_g d 1 [vr 0 58, vr 0 62] (am_up h 0 9 ((h 0 9) - 1))) fun h1 =>
    am_r0 (am_g d 82 [vr 6 0, vr 1 32, vi (-4)] h1) fun h2 =>
    some (h2, some (h2 0 9)))
  else am_r0 (am_g d 1 [vr 0 58, vr 0 66] (am_up h 0 9 ((h 0 9) - 1))) fun h3 =>
  am_r0 (am_g d 82 [vr 6 0, vr 1 32, vi (-4)] h3) fun h4 =>
  some (h4, some (h4 0 9)) := (am_g_run (tb := cC_back) rfl rfl (Nat.le_of_ble_eq_true rfl) rfl).trans (qC_back_0 (am_g d) 999999  h)
def rC_count (d n i : Nat) (ls : am_L) (h : am_H) : am_Z := am_run 0 (fun _ => 0) cC_count (am_g d) n i ls h
theorem gC_count (d : Nat) (x1 : Int32) (h : am_H) : am_g (d + 1) 80 [vr 6 0, vi x1] h =
  if x1 = nI 0 then
    (some (h, some (h (Int32.toNatClampNeg (h 0 2)) 14)))
  else if x1 = nI 1 then
    (some (h, some (h (Int32.toNatClampNeg (h 0 2)) 15)))
  else if x1 = nI 2 then
    (some (h, some (h (Int32.toNatClampNeg (h 0 2)) 16)))
  else if x1 = nI 3 then
    (some (h, some (h (Int32.toNatClampNeg (h 0 2)) 17)))
  else if x1 = nI 4 then
    (some (h, some (h 58 3)))
  else if x1 = nI 5 then
    (some (h, some (h 70 3)))
  else if x1 = nI 6 then
    (some (h, some (h 0 9)))
  else if x1 = nI 7 then
    (some (h, some (h 0 1)))
  else if x1 = nI 8 then
    (some (h, some (h (Int32.toNatClampNeg (h 0 2)) 18)))
  else some (h, some (-1)) := (am_g_run (tb := cC_count) rfl rfl (Nat.le_of_ble_eq_true rfl) rfl).trans (qC_count_0 (am_g d) 999999 x1 h)
def rC_moveIn (d n i : Nat) (ls : am_L) (h : am_H) : am_Z := am_run 0 (fun _ => 0) cC_moveIn (am_g d) n i ls h
theorem gC_moveIn (d : Nat)  (h : am_H) : am_g (d + 1) 81 [vr 6 0] h =
  am_r0 (am_g d 2 [vr 1 32, vr 2 (Int32.toNatClampNeg (nI (Int32.toNatClampNeg (h 0 3)))), vi (-4)] (am_up (am_up (am_up (am_up (am_up h 0 2 (nI (Int32.toNatClampNeg (h 0 3)))) 0 3 (nI (Int32.toNatClampNeg (h 0 2)))) 58 3 0) 70 3 0) 0 9 0)) fun h1 =>
  some (h1, none) := (am_g_run (tb := cC_moveIn) rfl rfl (Nat.le_of_ble_eq_true rfl) rfl).trans (qC_moveIn_0 (am_g d) 999999  h)
def rC_doAgain (d n i : Nat) (ls : am_L) (h : am_H) : am_Z := am_run 0 (fun _ => 0) cC_doAgain (am_g d) n i ls h
theorem gC_doAgain (d : Nat) (a1 : Nat) (x2 : Int32) (h : am_H) : am_g (d + 1) 82 [vr 6 0, vr 1 a1, vi x2] h =
  am_r0 (am_g d 2 [vr 1 a1, vr 2 (Int32.toNatClampNeg (h 0 2)), vi x2] h) fun h1 =>
  rC_doAgain d 999999 8 [some (vr 6 0), some (vr 1 a1), some (vi x2), some (vi 0)] h1 := (am_g_run (tb := cC_doAgain) rfl rfl (Nat.le_of_ble_eq_true rfl) rfl).trans (qC_doAgain_0 (am_g d) 999999 a1 x2 h)
theorem tC_doAgain_8 (d n : Nat) (a1 : Nat) (x2 : Int32) (x3 : Int32) (h : am_H) : rC_doAgain d (n + 1) 8 [some (vr 6 0), some (vr 1 a1), some (vi x2), some (vi x3)] h =
  if x3 < (h 58 3) then
    (am_b 40 x3 fun j1 =>
    am_b 40 x3 fun j2 =>
    am_b 40 x3 fun j3 =>
    am_r0 (am_g d 3 [vr 1 a1, vi (h 59 j1), vi (h 60 j2), vi (h 61 j3)] h) fun h4 =>
    rC_doAgain d n 8 [some (vr 6 0), some (vr 1 a1), some (vi x2), some (vi (x3 + 1))] h4)
  else some (h, none) := qC_doAgain_8 (am_g d) n a1 x2 x3 h
def rC_act (d n i : Nat) (ls : am_L) (h : am_H) : am_Z := am_run 0 (fun _ => 0) cC_act (am_g d) n i ls h
theorem gC_act (d : Nat) (x1 : Int32) (x2 : Int32) (x3 : Int32) (h : am_H) : am_g (d + 1) 83 [vr 6 0, vi x1, vi x2, vi x3] h =
  am_r1 (am_g d 0 [vr 0 58, vi x1, vi x2, vi x3] h) fun h1 v2 =>
  if v2 = 0 then
    (some (h1, some 0))
  else am_r0 (am_g d 3 [vr 1 32, vi x1, vi x2, vi x3] h1) fun h3 =>
  some (h3, some 1) := (am_g_run (tb := cC_act) rfl rfl (Nat.le_of_ble_eq_true rfl) rfl).trans (qC_act_0 (am_g d) 999999 x1 x2 x3 h)
def rC_nextOwnHour (d n i : Nat) (ls : am_L) (h : am_H) : am_Z := am_run 0 (fun _ => 0) cC_nextOwnHour (am_g d) n i ls h
theorem gC_nextOwnHour (d : Nat) (x1 : Int32) (x2 : Int32) (h : am_H) : am_g (d + 1) 84 [vr 6 0, vi x1, vi x2] h =
  am_b 4 x1 fun j1 =>
  am_b 6 (h 33 j1) fun j2 =>
  am_b 4 x1 fun j3 =>
  am_b 4 x1 fun j4 =>
  am_b 4 x1 fun j5 =>
  am_r1 (am_g d 85 [vi (h 34 j3), vi ((h 34 j4) + ((x2 - (h 35 j5)) * (h ((Int32.toNatClampNeg (h 0 2)) + 4) j2))), vi (h ((Int32.toNatClampNeg (h 0 2)) + 4) j2)] h) fun h6 v7 =>
  some (h6, some v7) := (am_g_run (tb := cC_nextOwnHour) rfl rfl (Nat.le_of_ble_eq_true rfl) rfl).trans (qC_nextOwnHour_0 (am_g d) 999999 x1 x2 h)
def rC_nextTick (d n i : Nat) (ls : am_L) (h : am_H) : am_Z := am_run 0 (fun _ => 0) cC_nextTick (am_g d) n i ls h
theorem gC_nextTick (d : Nat) (x0 : Int32) (x1 : Int32) (x2 : Int32) (h : am_H) : am_g (d + 1) 85 [vi x0, vi x1, vi x2] h =
  if (24 * x2) < 1 then
    (some (h, some x0))
  else am_r1 (am_g d 165 [vi (x1 - x0), vi (24 * x2)] h) fun h1 v2 =>
  some (h1, some (x0 + v2)) := (am_g_run (tb := cC_nextTick) rfl rfl (Nat.le_of_ble_eq_true rfl) rfl).trans (qC_nextTick_0 (am_g d) 999999 x0 x1 x2 h)
def rC_drawOf (d n i : Nat) (ls : am_L) (h : am_H) : am_Z := am_run 0 (fun _ => 0) cC_drawOf (am_g d) n i ls h
theorem gC_drawOf (d : Nat) (x0 : Int32) (x1 : Int32) (h : am_H) : am_g (d + 1) 86 [vi x0, vi x1] h =
  if Int32.toInt64 65521 = 0 then none else
  some (h, some (Int64.toInt32 (am_reml (((((Int32.toInt64 7919) * (Int32.toInt64 x0)) + ((Int32.toInt64 6151) * (Int32.toInt64 x1))) + (Int32.toInt64 1)) * ((((Int32.toInt64 7919) * (Int32.toInt64 x0)) + ((Int32.toInt64 6151) * (Int32.toInt64 x1))) + (Int32.toInt64 1))) (Int32.toInt64 65521)))) := (am_g_run (tb := cC_drawOf) rfl rfl (Nat.le_of_ble_eq_true rfl) rfl).trans (qC_drawOf_0 (am_g d) 999999 x0 x1 h)
def rC_commonDivisor (d n i : Nat) (ls : am_L) (h : am_H) : am_Z := am_run 0 (fun _ => 0) cC_commonDivisor (am_g d) n i ls h
theorem gC_commonDivisor (d : Nat) (x0 : Int32) (x1 : Int32) (h : am_H) : am_g (d + 1) 87 [vi x0, vi x1] h =
  rC_commonDivisor d 999999 7 [some (vi x0), some (vi x1), some (vi x0), some (vi x1), some (vi 0), none] h := (am_g_run (tb := cC_commonDivisor) rfl rfl (Nat.le_of_ble_eq_true rfl) rfl).trans (qC_commonDivisor_0 (am_g d) 999999 x0 x1 h)
theorem tC_commonDivisor_7 (d n : Nat) (x0 : Int32) (x1 : Int32) (x2 : Int32) (x3 : Int32) (x4 : Int32) (u5 : Option am_V) (h : am_H) : rC_commonDivisor d (n + 1) 7 [some (vi x0), some (vi x1), some (vi x2), some (vi x3), some (vi x4), u5] h =
  if x4 < 64 then
    (if x3 = 0 then
      (am_r1 (am_g d 166 [vi x2, vi 1] h) fun h1 v2 =>
      some (h1, some v2))
    else if x3 = 0 then none else
    rC_commonDivisor d n 7 [some (vi x0), some (vi x1), some (vi x3), some (vi (am_rem x2 x3)), some (vi (x4 + 1)), some (vi (am_rem x2 x3))] h)
  else am_r1 (am_g d 166 [vi x2, vi 1] h) fun h3 v4 =>
  some (h3, some v4) := qC_commonDivisor_7 (am_g d) n x0 x1 x2 x3 x4 u5 h
def rC_told (d n i : Nat) (ls : am_L) (h : am_H) : am_Z := am_run 0 (fun _ => 0) cC_told (am_g d) n i ls h
theorem gC_told (d : Nat) (x0 : Int32) (h : am_H) : am_g (d + 1) 88 [vi x0] h =
  some (h, some (x0 + 100000)) := (am_g_run (tb := cC_told) rfl rfl (Nat.le_of_ble_eq_true rfl) rfl).trans (qC_told_0 (am_g d) 999999 x0 h)
def rC_isOneOf (d n i : Nat) (ls : am_L) (h : am_H) : am_Z := am_run 0 (fun _ => 0) cC_isOneOf (am_g d) n i ls h
theorem gC_isOneOf (d : Nat) (x0 : Int32) (x1 : Int32) (h : am_H) : am_g (d + 1) 89 [vi x0, vi x1] h =
  if x0 < 0 then
    (some (h, some 0))
  else if x0 < x1 then
    (some (h, some 1))
  else some (h, some 0) := (am_g_run (tb := cC_isOneOf) rfl rfl (Nat.le_of_ble_eq_true rfl) rfl).trans (qC_isOneOf_0 (am_g d) 999999 x0 x1 h)
def rC_isTickToTell (d n i : Nat) (ls : am_L) (h : am_H) : am_Z := am_run 0 (fun _ => 0) cC_isTickToTell (am_g d) n i ls h
theorem gC_isTickToTell (d : Nat) (x0 : Int32) (h : am_H) : am_g (d + 1) 90 [vi x0] h =
  if x0 < (-9999) then
    (some (h, some 0))
  else if 9999 < x0 then
    (some (h, some 0))
  else some (h, some 1) := (am_g_run (tb := cC_isTickToTell) rfl rfl (Nat.le_of_ble_eq_true rfl) rfl).trans (qC_isTickToTell_0 (am_g d) 999999 x0 h)
def rC_isRoom (d n i : Nat) (ls : am_L) (h : am_H) : am_Z := am_run 0 (fun _ => 0) cC_isRoom (am_g d) n i ls h
theorem gC_isRoom (d : Nat) (x1 : Int32) (h : am_H) : am_g (d + 1) 91 [vr 6 0, vi x1] h =
  am_r1 (am_g d 89 [vi x1, vi (h (Int32.toNatClampNeg (h 0 2)) 14)] h) fun h1 v2 =>
  if v2 &&& 1 = v2 then some (h1, some v2) else none := (am_g_run (tb := cC_isRoom) rfl rfl (Nat.le_of_ble_eq_true rfl) rfl).trans (qC_isRoom_0 (am_g d) 999999 x1 h)
def rC_isDoor (d n i : Nat) (ls : am_L) (h : am_H) : am_Z := am_run 0 (fun _ => 0) cC_isDoor (am_g d) n i ls h
theorem gC_isDoor (d : Nat) (x1 : Int32) (h : am_H) : am_g (d + 1) 92 [vr 6 0, vi x1] h =
  am_r1 (am_g d 89 [vi x1, vi (h (Int32.toNatClampNeg (h 0 2)) 15)] h) fun h1 v2 =>
  if v2 &&& 1 = v2 then some (h1, some v2) else none := (am_g_run (tb := cC_isDoor) rfl rfl (Nat.le_of_ble_eq_true rfl) rfl).trans (qC_isDoor_0 (am_g d) 999999 x1 h)
def rC_isPerson (d n i : Nat) (ls : am_L) (h : am_H) : am_Z := am_run 0 (fun _ => 0) cC_isPerson (am_g d) n i ls h
theorem gC_isPerson (d : Nat) (x1 : Int32) (h : am_H) : am_g (d + 1) 93 [vr 6 0, vi x1] h =
  am_r1 (am_g d 89 [vi x1, vi (h (Int32.toNatClampNeg (h 0 2)) 16)] h) fun h1 v2 =>
  if v2 &&& 1 = v2 then some (h1, some v2) else none := (am_g_run (tb := cC_isPerson) rfl rfl (Nat.le_of_ble_eq_true rfl) rfl).trans (qC_isPerson_0 (am_g d) 999999 x1 h)
def rC_isThing (d n i : Nat) (ls : am_L) (h : am_H) : am_Z := am_run 0 (fun _ => 0) cC_isThing (am_g d) n i ls h
theorem gC_isThing (d : Nat) (x1 : Int32) (h : am_H) : am_g (d + 1) 94 [vr 6 0, vi x1] h =
  am_r1 (am_g d 89 [vi x1, vi (h (Int32.toNatClampNeg (h 0 2)) 17)] h) fun h1 v2 =>
  if v2 &&& 1 = v2 then some (h1, some v2) else none := (am_g_run (tb := cC_isThing) rfl rfl (Nat.le_of_ble_eq_true rfl) rfl).trans (qC_isThing_0 (am_g d) 999999 x1 h)
def rJ_bitCount (d n i : Nat) (ls : am_L) (h : am_H) : am_Z := am_run 0 (fun _ => 0) cJ_bitCount (am_g d) n i ls h
theorem gJ_bitCount (d : Nat) (x0 : Int32) (h : am_H) : am_g (d + 1) 164 [vi x0] h =
  some (h, some ((((((((x0 - ((am_ush x0 1) &&& 1431655765)) &&& 858993459) + ((am_ush (x0 - ((am_ush x0 1) &&& 1431655765)) 2) &&& 858993459)) + (am_ush (((x0 - ((am_ush x0 1) &&& 1431655765)) &&& 858993459) + ((am_ush (x0 - ((am_ush x0 1) &&& 1431655765)) 2) &&& 858993459)) 4)) &&& 252645135) + (am_ush (((((x0 - ((am_ush x0 1) &&& 1431655765)) &&& 858993459) + ((am_ush (x0 - ((am_ush x0 1) &&& 1431655765)) 2) &&& 858993459)) + (am_ush (((x0 - ((am_ush x0 1) &&& 1431655765)) &&& 858993459) + ((am_ush (x0 - ((am_ush x0 1) &&& 1431655765)) 2) &&& 858993459)) 4)) &&& 252645135) 8)) + (am_ush ((((((x0 - ((am_ush x0 1) &&& 1431655765)) &&& 858993459) + ((am_ush (x0 - ((am_ush x0 1) &&& 1431655765)) 2) &&& 858993459)) + (am_ush (((x0 - ((am_ush x0 1) &&& 1431655765)) &&& 858993459) + ((am_ush (x0 - ((am_ush x0 1) &&& 1431655765)) 2) &&& 858993459)) 4)) &&& 252645135) + (am_ush (((((x0 - ((am_ush x0 1) &&& 1431655765)) &&& 858993459) + ((am_ush (x0 - ((am_ush x0 1) &&& 1431655765)) 2) &&& 858993459)) + (am_ush (((x0 - ((am_ush x0 1) &&& 1431655765)) &&& 858993459) + ((am_ush (x0 - ((am_ush x0 1) &&& 1431655765)) 2) &&& 858993459)) 4)) &&& 252645135) 8)) 16)) &&& 63)) := (am_g_run (tb := cJ_bitCount) rfl rfl (Nat.le_of_ble_eq_true rfl) rfl).trans (qJ_bitCount_0 (am_g d) 999999 x0 h)
def rJ_floorMod (d n i : Nat) (ls : am_L) (h : am_H) : am_Z := am_run 0 (fun _ => 0) cJ_floorMod (am_g d) n i ls h
theorem gJ_floorMod (d : Nat) (x0 : Int32) (x1 : Int32) (h : am_H) : am_g (d + 1) 165 [vi x0, vi x1] h =
  if x1 = 0 then none else
  if (x0 ^^^ x1) < 0 then
    (if (am_rem x0 x1) = 0 then
      (some (h, some (am_rem x0 x1)))
    else some (h, some ((am_rem x0 x1) + x1)))
  else some (h, some (am_rem x0 x1)) := (am_g_run (tb := cJ_floorMod) rfl rfl (Nat.le_of_ble_eq_true rfl) rfl).trans (qJ_floorMod_0 (am_g d) 999999 x0 x1 h)
def rJ_max (d n i : Nat) (ls : am_L) (h : am_H) : am_Z := am_run 0 (fun _ => 0) cJ_max (am_g d) n i ls h
theorem gJ_max (d : Nat) (x0 : Int32) (x1 : Int32) (h : am_H) : am_g (d + 1) 166 [vi x0, vi x1] h =
  if x0 < x1 then
    (some (h, some x1))
  else some (h, some x0) := (am_g_run (tb := cJ_max) rfl rfl (Nat.le_of_ble_eq_true rfl) rfl).trans (qJ_max_0 (am_g d) 999999 x0 x1 h)
def rJ_min (d n i : Nat) (ls : am_L) (h : am_H) : am_Z := am_run 0 (fun _ => 0) cJ_min (am_g d) n i ls h
theorem gJ_min (d : Nat) (x0 : Int32) (x1 : Int32) (h : am_H) : am_g (d + 1) 167 [vi x0, vi x1] h =
  if x1 < x0 then
    (some (h, some x1))
  else some (h, some x0) := (am_g_run (tb := cJ_min) rfl rfl (Nat.le_of_ble_eq_true rfl) rfl).trans (qJ_min_0 (am_g d) 999999 x0 x1 h)
def rJ_fill (d n i : Nat) (ls : am_L) (h : am_H) : am_Z := am_run 0 (fun _ => 0) cJ_fill (am_g d) n i ls h
theorem gJ_fill6 (d : Nat) (a0 : Nat) (x1 : Int32) (h : am_H) : am_g (d + 1) 168 [vr 106 a0, vi x1] h =
  rJ_fill d 999999 6 [some (vr 106 a0), some (vi x1), some (vi 0), some (vi (nI 6))] h := (am_g_run (tb := cJ_fill) rfl rfl (Nat.le_of_ble_eq_true rfl) rfl).trans (qJ_fill6_0 (am_g d) 999999 a0 x1 h)
theorem tJ_fill6_6 (d n : Nat) (a0 : Nat) (x1 : Int32) (x2 : Int32) (x3 : Int32) (h : am_H) : rJ_fill d (n + 1) 6 [some (vr 106 a0), some (vi x1), some (vi x2), some (vi x3)] h =
  if x2 < x3 then
    (am_b 6 x2 fun j1 =>
    rJ_fill d n 6 [some (vr 106 a0), some (vi x1), some (vi (x2 + 1)), some (vi x3)] (am_up h a0 j1 x1))
  else some (h, none) := qJ_fill6_6 (am_g d) n a0 x1 x2 x3 h
theorem gJ_fill384 (d : Nat) (a0 : Nat) (x1 : Int32) (h : am_H) : am_g (d + 1) 168 [vr 484 a0, vi x1] h =
  rJ_fill d 999999 6 [some (vr 484 a0), some (vi x1), some (vi 0), some (vi (nI 384))] h := (am_g_run (tb := cJ_fill) rfl rfl (Nat.le_of_ble_eq_true rfl) rfl).trans (qJ_fill384_0 (am_g d) 999999 a0 x1 h)
theorem tJ_fill384_6 (d n : Nat) (a0 : Nat) (x1 : Int32) (x2 : Int32) (x3 : Int32) (h : am_H) : rJ_fill d (n + 1) 6 [some (vr 484 a0), some (vi x1), some (vi x2), some (vi x3)] h =
  if x2 < x3 then
    (am_b 384 x2 fun j1 =>
    rJ_fill d n 6 [some (vr 484 a0), some (vi x1), some (vi (x2 + 1)), some (vi x3)] (am_up h a0 j1 x1))
  else some (h, none) := qJ_fill384_6 (am_g d) n a0 x1 x2 x3 h
end
section
/-! CALLS as equations, the reference; by program -/
def rM_in (d n i : Nat) (ls : am_L) (h : am_H) : am_Z := am_run 0 (fun _ => 0) cM_in (am_g d) n i ls h
theorem gM_in (d : Nat) (y0 : Int64) (y2 : Int64) (y4 : Int64) (h : am_H) : am_g (d + 1) 95 [vl y0, vl y2, vl y4] h =
  if (lg_cmp y0 y2) < 0 then
    (some (h, some 0))
  else if 0 < (lg_cmp y0 y4) then
    (some (h, some 0))
  else some (h, some 1) := (am_g_run (tb := cM_in) rfl rfl (Nat.le_of_ble_eq_true rfl) rfl).trans (qM_in_0 (am_g d) 999999 y0 y2 y4 h)
def rM_has (d n i : Nat) (ls : am_L) (h : am_H) : am_Z := am_run 0 (fun _ => 0) cM_has (am_g d) n i ls h
theorem gM_has (d : Nat) (x0 : Int32) (x1 : Int32) (h : am_H) : am_g (d + 1) 96 [vi x0, vi x1] h =
  if ((x0 >>> (x1 &&& 31)) &&& 1) = 1 then
    (some (h, some 1))
  else some (h, some 0) := (am_g_run (tb := cM_has) rfl rfl (Nat.le_of_ble_eq_true rfl) rfl).trans (qM_has_0 (am_g d) 999999 x0 x1 h)
def rM_noHouse (d n i : Nat) (ls : am_L) (h : am_H) : am_Z := am_run 0 (fun _ => 0) cM_noHouse (am_g d) n i ls h
theorem gM_noHouse (d : Nat) (x1 : Int32) (h : am_H) : am_g (d + 1) 97 [vr 7 82, vi x1] h =
  am_b 2 x1 fun j1 =>
  am_b 2 x1 fun j2 =>
  am_b 2 x1 fun j3 =>
  am_b 2 x1 fun j4 =>
  am_b 2 x1 fun j5 =>
  some (am_up (am_up (am_up (am_up (am_up h 84 j1 0) 88 j2 0) 92 j3 0) 95 j4 0) 99 j5 1, none) := (am_g_run (tb := cM_noHouse) rfl rfl (Nat.le_of_ble_eq_true rfl) rfl).trans (qM_noHouse_0 (am_g d) 999999 x1 h)
def rM_addRoom (d n i : Nat) (ls : am_L) (h : am_H) : am_Z := am_run 0 (fun _ => 0) cM_addRoom (am_g d) n i ls h
theorem gM_addRoom (d : Nat) (x1 : Int32) (x2 : Int32) (x3 : Int32) (x4 : Int32) (h : am_H) : am_g (d + 1) 98 [vr 7 82, vi x1, vi x2, vi x3, vi x4] h =
  am_b 2 x1 fun j1 =>
  am_b 12 ((6 * x1) + (h 84 j1)) fun j2 =>
  am_b 2 x1 fun j3 =>
  am_b 12 ((6 * x1) + (h 84 j3)) fun j4 =>
  am_b 2 x1 fun j5 =>
  am_b 12 ((6 * x1) + (h 84 j5)) fun j6 =>
  am_b 2 x1 fun j7 =>
  am_b 2 x1 fun j8 =>
  some (am_up (am_up (am_up (am_up h 85 j2 x2) 86 j4 x3) 87 j6 x4) 84 j8 ((h 84 j7) + 1), none) := (am_g_run (tb := cM_addRoom) rfl rfl (Nat.le_of_ble_eq_true rfl) rfl).trans (qM_addRoom_0 (am_g d) 999999 x1 x2 x3 x4 h)
def rM_addDoor (d n i : Nat) (ls : am_L) (h : am_H) : am_Z := am_run 0 (fun _ => 0) cM_addDoor (am_g d) n i ls h
theorem gM_addDoor (d : Nat) (x1 : Int32) (x2 : Int32) (x3 : Int32) (x4 : Int32) (x5 : Int32) (h : am_H) : am_g (d + 1) 99 [vr 7 82, vi x1, vi x2, vi x3, vi x4, vi x5] h =
  am_b 2 x1 fun j1 =>
  am_b 16 ((8 * x1) + (h 88 j1)) fun j2 =>
  am_b 2 x1 fun j3 =>
  am_b 16 ((8 * x1) + (h 88 j3)) fun j4 =>
  am_b 2 x1 fun j5 =>
  if x4 = 0 then
    (am_b 16 ((8 * x1) + (h 88 j5)) fun j6 =>
    am_b 2 x1 fun j7 =>
    am_b 2 x1 fun j8 =>
    some (am_up (am_up (am_up (am_up h 89 j2 x2) 90 j4 x3) 91 j6 x5) 88 j8 ((h 88 j7) + 1), none))
  else am_b 16 ((8 * x1) + (h 88 j5)) fun j9 =>
  am_b 2 x1 fun j10 =>
  am_b 2 x1 fun j11 =>
  some (am_up (am_up (am_up (am_up h 89 j2 x2) 90 j4 x3) 91 j9 (-x5)) 88 j11 ((h 88 j10) + 1), none) := (am_g_run (tb := cM_addDoor) rfl rfl (Nat.le_of_ble_eq_true rfl) rfl).trans (qM_addDoor_0 (am_g d) 999999 x1 x2 x3 x4 x5 h)
def rM_write (d n i : Nat) (ls : am_L) (h : am_H) : am_Z := am_run 0 (fun _ => 0) cM_write (am_g d) n i ls h
theorem gM_write (d : Nat) (x1 : Int32) (h : am_H) : am_g (d + 1) 100 [vr 7 82, vi x1] h =
  am_r1 (am_g d 95 [vl (Int32.toInt64 x1), vl (Int32.toInt64 32), vl (Int32.toInt64 126)] h) fun h1 v2 =>
  if v2 = 0 then
    (some (h1, some (-1)))
  else if (h1 82 0) = 200 then
    (some (h1, some (-3)))
  else am_b 200 (h1 82 0) fun j3 =>
  some (am_up (am_up h1 83 j3 x1) 82 0 ((h1 82 0) + 1), some ((h1 82 0) + 1)) := (am_g_run (tb := cM_write) rfl rfl (Nat.le_of_ble_eq_true rfl) rfl).trans (qM_write_0 (am_g d) 999999 x1 h)
def rM_wipe (d n i : Nat) (ls : am_L) (h : am_H) : am_Z := am_run 0 (fun _ => 0) cM_wipe (am_g d) n i ls h
theorem gM_wipe (d : Nat)  (h : am_H) : am_g (d + 1) 101 [vr 7 82] h =
  some (am_up h 82 0 0, some (h 82 0)) := (am_g_run (tb := cM_wipe) rfl rfl (Nat.le_of_ble_eq_true rfl) rfl).trans (qM_wipe_0 (am_g d) 999999  h)
def rM_letterAt (d n i : Nat) (ls : am_L) (h : am_H) : am_Z := am_run 0 (fun _ => 0) cM_letterAt (am_g d) n i ls h
theorem gM_letterAt (d : Nat) (x1 : Int32) (h : am_H) : am_g (d + 1) 102 [vr 7 82, vi x1] h =
  if x1 < (h 82 0) then
    (am_b 200 x1 fun j1 =>
    some (h, some (h 83 j1)))
  else some (h, some 0) := (am_g_run (tb := cM_letterAt) rfl rfl (Nat.le_of_ble_eq_true rfl) rfl).trans (qM_letterAt_0 (am_g d) 999999 x1 h)
def rM_figures (d n i : Nat) (ls : am_L) (h : am_H) : am_Z := am_run 0 (fun _ => 0) cM_figures (am_g d) n i ls h
theorem gM_figures (d : Nat) (x1 : Int32) (h : am_H) : am_g (d + 1) 103 [vr 7 82, vi x1] h =
  rM_figures d 999999 3 [some (vr 7 82), some (vi x1), some (vi 0), none, none] h := (am_g_run (tb := cM_figures) rfl rfl (Nat.le_of_ble_eq_true rfl) rfl).trans (qM_figures_0 (am_g d) 999999 x1 h)
theorem tM_figures_3 (d n : Nat) (x1 : Int32) (x2 : Int32) (u3 : Option am_V) (u4 : Option am_V) (h : am_H) : rM_figures d (n + 1) 3 [some (vr 7 82), some (vi x1), some (vi x2), u3, u4] h =
  if x2 < x1 then
    (rM_figures d n 11 [some (vr 7 82), some (vi x1), some (vi x2), some (vi 0), some (vi 0)] h)
  else some (h, some 1) := qM_figures_3 (am_g d) n x1 x2 u3 u4 h
theorem tM_figures_11 (d n : Nat) (x1 : Int32) (x2 : Int32) (x3 : Int32) (x4 : Int32) (h : am_H) : rM_figures d (n + 1) 11 [some (vr 7 82), some (vi x1), some (vi x2), some (vi x3), some (vi x4)] h =
  am_r1 (am_g d 102 [vr 7 82, vi (h 82 27)] h) fun h1 v2 =>
  am_r1 (am_g d 95 [vl (Int32.toInt64 v2), vl (Int32.toInt64 48), vl (Int32.toInt64 57)] h1) fun h3 v4 =>
  if v4 = 0 then
    (am_r1 (am_g d 95 [vl (Int32.toInt64 x3), vl (Int32.toInt64 1), vl (Int32.toInt64 2)] h3) fun h5 v6 =>
    if v6 = 0 then
      (some (h5, some 0))
    else am_r1 (am_g d 102 [vr 7 82, vi (h5 82 27)] h5) fun h7 v8 =>
    if x2 < (x1 - 1) then
      (if v8 = 44 then
        (am_b 4 x2 fun j9 =>
        rM_figures d n 3 [some (vr 7 82), some (vi x1), some (vi (x2 + 1)), some (vi x3), some (vi x4)] (am_up (am_up h7 107 j9 x4) 82 27 ((h7 82 27) + 1)))
      else some (h7, some 0))
    else if v8 = 59 then
      (am_b 4 x2 fun j10 =>
      rM_figures d n 3 [some (vr 7 82), some (vi x1), some (vi (x2 + 1)), some (vi x3), some (vi x4)] (am_up (am_up h7 107 j10 x4) 82 27 ((h7 82 27) + 1)))
    else some (h7, some 0))
  else if x3 < 3 then
    (am_r1 (am_g d 102 [vr 7 82, vi (h3 82 27)] h3) fun h11 v12 =>
    rM_figures d n 11 [some (vr 7 82), some (vi x1), some (vi x2), some (vi (x3 + 1)), some (vi (((10 * x4) + v12) - 48))] (am_up h11 82 27 ((h11 82 27) + 1)))
  else am_r1 (am_g d 95 [vl (Int32.toInt64 x3), vl (Int32.toInt64 1), vl (Int32.toInt64 2)] h3) fun h13 v14 =>
  if v14 = 0 then
    (some (h13, some 0))
  else am_r1 (am_g d 102 [vr 7 82, vi (h13 82 27)] h13) fun h15 v16 =>
  if x2 < (x1 - 1) then
    (if v16 = 44 then
      (am_b 4 x2 fun j17 =>
      rM_figures d n 3 [some (vr 7 82), some (vi x1), some (vi (x2 + 1)), some (vi x3), some (vi x4)] (am_up (am_up h15 107 j17 x4) 82 27 ((h15 82 27) + 1)))
    else some (h15, some 0))
  else if v16 = 59 then
    (am_b 4 x2 fun j18 =>
    rM_figures d n 3 [some (vr 7 82), some (vi x1), some (vi (x2 + 1)), some (vi x3), some (vi x4)] (am_up (am_up h15 107 j18 x4) 82 27 ((h15 82 27) + 1)))
  else some (h15, some 0) := qM_figures_11 (am_g d) n x1 x2 x3 x4 h
def rM_item (d n i : Nat) (ls : am_L) (h : am_H) : am_Z := am_run 0 (fun _ => 0) cM_item (am_g d) n i ls h
theorem gM_item (d : Nat)  (h : am_H) : am_g (d + 1) 104 [vr 7 82] h =
  am_r1 (am_g d 102 [vr 7 82, vi (h 82 27)] h) fun h1 v2 =>
  if v2 = nI 100 then
    (am_r1 (am_g d 103 [vr 7 82, vi 4] (am_up h1 82 27 ((h1 82 27) + 1))) fun h3 v4 =>
    if v4 = 0 then
      (some (h3, some 0))
    else if (h3 88 1) = 8 then
      (some (h3, some 0))
    else if (h3 107 0) < (h3 84 1) then
      (if (h3 107 1) < (h3 84 1) then
        (if (h3 107 0) = (h3 107 1) then
          (some (h3, some 0))
        else if 1 < (h3 107 2) then
          (some (h3, some 0))
        else if 24 < (h3 107 3) then
          (some (h3, some 0))
        else am_r0 (am_g d 99 [vr 7 82, vi 1, vi (h3 107 0), vi (h3 107 1), vi (h3 107 2), vi (h3 107 3)] h3) fun h5 =>
        some (h5, some 1))
      else some (h3, some 0))
    else some (h3, some 0))
  else if v2 = nI 112 then
    (am_r1 (am_g d 103 [vr 7 82, vi 2] (am_up h1 82 27 ((h1 82 27) + 1))) fun h6 v7 =>
    if v7 = 0 then
      (some (h6, some 0))
    else if (h6 92 1) = 4 then
      (some (h6, some 0))
    else if (h6 107 0) < (h6 84 1) then
      (am_b 8 (4 + (h6 92 1)) fun j8 =>
      am_b 8 (4 + (h6 92 1)) fun j9 =>
      some (am_up (am_up (am_up h6 93 j8 (h6 107 0)) 94 j9 (h6 107 1)) 92 1 ((h6 92 1) + 1), some 1))
    else some (h6, some 0))
  else if v2 = nI 114 then
    (am_r1 (am_g d 103 [vr 7 82, vi 3] (am_up h1 82 27 ((h1 82 27) + 1))) fun h10 v11 =>
    if v11 = 0 then
      (some (h10, some 0))
    else if (h10 84 1) = 6 then
      (some (h10, some 0))
    else am_r1 (am_g d 95 [vl (Int32.toInt64 (h10 107 0)), vl (Int32.toInt64 1), vl (Int32.toInt64 4)] h10) fun h12 v13 =>
    if v13 = 0 then
      (some (h12, some 0))
    else am_r1 (am_g d 95 [vl (Int32.toInt64 (h12 107 1)), vl (Int32.toInt64 1), vl (Int32.toInt64 4)] h12) fun h14 v15 =>
    if v15 = 0 then
      (some (h14, some 0))
    else if 23 < (h14 107 2) then
      (some (h14, some 0))
    else am_r0 (am_g d 98 [vr 7 82, vi 1, vi (h14 107 0), vi (h14 107 1), vi (h14 107 2)] h14) fun h16 =>
    some (h16, some 1))
  else if v2 = nI 116 then
    (am_r1 (am_g d 103 [vr 7 82, vi 3] (am_up h1 82 27 ((h1 82 27) + 1))) fun h17 v18 =>
    if v18 = 0 then
      (some (h17, some 0))
    else if (h17 95 1) = 5 then
      (some (h17, some 0))
    else if (h17 107 0) < (h17 84 1) then
      (if 3 < (h17 107 1) then
        (some (h17, some 0))
      else if (h17 107 2) < 1 then
        (some (h17, some 0))
      else am_b 10 (5 + (h17 95 1)) fun j19 =>
      am_b 10 (5 + (h17 95 1)) fun j20 =>
      am_b 10 (5 + (h17 95 1)) fun j21 =>
      some (am_up (am_up (am_up (am_up h17 96 j19 (h17 107 0)) 97 j20 (h17 107 1)) 98 j21 (h17 107 2)) 95 1 ((h17 95 1) + 1), some 1))
    else some (h17, some 0))
  else if v2 = nI 119 then
    (am_r1 (am_g d 103 [vr 7 82, vi 1] (am_up h1 82 27 ((h1 82 27) + 1))) fun h22 v23 =>
    if v23 = 0 then
      (some (h22, some 0))
    else if 3 < (h22 107 0) then
      (some (h22, some 0))
    else some (am_up h22 99 1 (h22 107 0), some 1))
  else some (am_up h1 82 27 ((h1 82 27) + 1), some 0) := (am_g_run (tb := cM_item) rfl rfl (Nat.le_of_ble_eq_true rfl) rfl).trans (qM_item_0 (am_g d) 999999  h)
def rM_readAll (d n i : Nat) (ls : am_L) (h : am_H) : am_Z := am_run 0 (fun _ => 0) cM_readAll (am_g d) n i ls h
theorem gM_readAll (d : Nat)  (h : am_H) : am_g (d + 1) 105 [vr 7 82] h =
  am_r0 (am_g d 97 [vr 7 82, vi 1] h) fun h1 =>
  rM_readAll d 999999 7 [some (vr 7 82), none] (am_up h1 82 27 0) := (am_g_run (tb := cM_readAll) rfl rfl (Nat.le_of_ble_eq_true rfl) rfl).trans (qM_readAll_0 (am_g d) 999999  h)
theorem tM_readAll_7 (d n : Nat) (u1 : Option am_V) (h : am_H) : rM_readAll d (n + 1) 7 [some (vr 7 82), u1] h =
  if (h 82 27) < (h 82 0) then
    (am_r1 (am_g d 104 [vr 7 82] h) fun h1 v2 =>
    if v2 = 0 then
      (some (h1, some (h 82 27)))
    else rM_readAll d n 7 [some (vr 7 82), some (vi (h 82 27))] h1)
  else some (h, some (-4)) := qM_readAll_7 (am_g d) n u1 h
def rM_fault (d n i : Nat) (ls : am_L) (h : am_H) : am_Z := am_run 0 (fun _ => 0) cM_fault (am_g d) n i ls h
theorem gM_fault (d : Nat)  (h : am_H) : am_g (d + 1) 106 [vr 7 82] h =
  am_r1 (am_g d 105 [vr 7 82] h) fun h1 v2 =>
  some (h1, some v2) := (am_g_run (tb := cM_fault) rfl rfl (Nat.le_of_ble_eq_true rfl) rfl).trans (qM_fault_0 (am_g d) 999999  h)
def rM_lay (d n i : Nat) (ls : am_L) (h : am_H) : am_Z := am_run 0 (fun _ => 0) cM_lay (am_g d) n i ls h
theorem gM_lay (d : Nat)  (h : am_H) : am_g (d + 1) 107 [vr 7 82] h =
  am_r1 (am_g d 105 [vr 7 82] h) fun h1 v2 =>
  if v2 = (-4) then
    (if (h1 92 1) = 0 then
      (some (h1, some (-2)))
    else rM_lay d 999999 54 [some (vr 7 82), some (vi 0)] (am_up (am_up (am_up (am_up (am_up h1 84 0 (h1 84 1)) 88 0 (h1 88 1)) 92 0 (h1 92 1)) 95 0 (h1 95 1)) 99 0 (h1 99 1)))
  else some (h1, some (-2)) := (am_g_run (tb := cM_lay) rfl rfl (Nat.le_of_ble_eq_true rfl) rfl).trans (qM_lay_0 (am_g d) 999999  h)
theorem tM_lay_54 (d n : Nat) (x1 : Int32) (h : am_H) : rM_lay d (n + 1) 54 [some (vr 7 82), some (vi x1)] h =
  if x1 < 6 then
    (am_b 12 (6 + x1) fun j1 =>
    am_b 12 x1 fun j2 =>
    am_b 12 (6 + x1) fun j3 =>
    am_b 12 x1 fun j4 =>
    am_b 12 (6 + x1) fun j5 =>
    am_b 12 x1 fun j6 =>
    rM_lay d n 54 [some (vr 7 82), some (vi (x1 + 1))] (am_up (am_up (am_up h 85 j2 (h 85 j1)) 86 j4 (h 86 j3)) 87 j6 (h 87 j5)))
  else rM_lay d n 92 [some (vr 7 82), some (vi 0)] h := qM_lay_54 (am_g d) n x1 h
theorem tM_lay_92 (d n : Nat) (x1 : Int32) (h : am_H) : rM_lay d (n + 1) 92 [some (vr 7 82), some (vi x1)] h =
  if x1 < 8 then
    (am_b 16 (8 + x1) fun j1 =>
    am_b 16 x1 fun j2 =>
    am_b 16 (8 + x1) fun j3 =>
    am_b 16 x1 fun j4 =>
    am_b 16 (8 + x1) fun j5 =>
    am_b 16 x1 fun j6 =>
    rM_lay d n 92 [some (vr 7 82), some (vi (x1 + 1))] (am_up (am_up (am_up h 89 j2 (h 89 j1)) 90 j4 (h 90 j3)) 91 j6 (h 91 j5)))
  else rM_lay d n 130 [some (vr 7 82), some (vi 0)] h := qM_lay_92 (am_g d) n x1 h
theorem tM_lay_130 (d n : Nat) (x1 : Int32) (h : am_H) : rM_lay d (n + 1) 130 [some (vr 7 82), some (vi x1)] h =
  if x1 < 4 then
    (am_b 8 (4 + x1) fun j1 =>
    am_b 8 x1 fun j2 =>
    am_b 8 (4 + x1) fun j3 =>
    am_b 8 x1 fun j4 =>
    rM_lay d n 130 [some (vr 7 82), some (vi (x1 + 1))] (am_up (am_up h 93 j2 (h 93 j1)) 94 j4 (h 94 j3)))
  else rM_lay d n 158 [some (vr 7 82), some (vi 0)] h := qM_lay_130 (am_g d) n x1 h
theorem tM_lay_158 (d n : Nat) (x1 : Int32) (h : am_H) : rM_lay d (n + 1) 158 [some (vr 7 82), some (vi x1)] h =
  if x1 < 5 then
    (am_b 10 (5 + x1) fun j1 =>
    am_b 10 x1 fun j2 =>
    am_b 10 (5 + x1) fun j3 =>
    am_b 10 x1 fun j4 =>
    am_b 10 (5 + x1) fun j5 =>
    am_b 10 x1 fun j6 =>
    rM_lay d n 158 [some (vr 7 82), some (vi (x1 + 1))] (am_up (am_up (am_up h 96 j2 (h 96 j1)) 97 j4 (h 97 j3)) 98 j6 (h 98 j5)))
  else am_r0 (am_g d 123 [vr 7 82] (am_up (am_up (am_up h 100 0 0) 82 22 0) 82 23 0)) fun h7 =>
  some (h7, some (h7 84 0)) := qM_lay_158 (am_g d) n x1 h
def rM_isRoom (d n i : Nat) (ls : am_L) (h : am_H) : am_Z := am_run 0 (fun _ => 0) cM_isRoom (am_g d) n i ls h
theorem gM_isRoom (d : Nat) (x1 : Int32) (h : am_H) : am_g (d + 1) 108 [vr 7 82, vi x1] h =
  am_r1 (am_g d 95 [vl (Int32.toInt64 x1), vl (Int32.toInt64 0), vl (Int32.toInt64 ((h 84 0) - 1))] h) fun h1 v2 =>
  if v2 &&& 1 = v2 then some (h1, some v2) else none := (am_g_run (tb := cM_isRoom) rfl rfl (Nat.le_of_ble_eq_true rfl) rfl).trans (qM_isRoom_0 (am_g d) 999999 x1 h)
def rM_isDoor (d n i : Nat) (ls : am_L) (h : am_H) : am_Z := am_run 0 (fun _ => 0) cM_isDoor (am_g d) n i ls h
theorem gM_isDoor (d : Nat) (x1 : Int32) (h : am_H) : am_g (d + 1) 109 [vr 7 82, vi x1] h =
  am_r1 (am_g d 95 [vl (Int32.toInt64 x1), vl (Int32.toInt64 0), vl (Int32.toInt64 ((h 88 0) - 1))] h) fun h1 v2 =>
  if v2 &&& 1 = v2 then some (h1, some v2) else none := (am_g_run (tb := cM_isDoor) rfl rfl (Nat.le_of_ble_eq_true rfl) rfl).trans (qM_isDoor_0 (am_g d) 999999 x1 h)
def rM_isPerson (d n i : Nat) (ls : am_L) (h : am_H) : am_Z := am_run 0 (fun _ => 0) cM_isPerson (am_g d) n i ls h
theorem gM_isPerson (d : Nat) (x1 : Int32) (h : am_H) : am_g (d + 1) 110 [vr 7 82, vi x1] h =
  am_r1 (am_g d 95 [vl (Int32.toInt64 x1), vl (Int32.toInt64 0), vl (Int32.toInt64 ((h 92 0) - 1))] h) fun h1 v2 =>
  if v2 &&& 1 = v2 then some (h1, some v2) else none := (am_g_run (tb := cM_isPerson) rfl rfl (Nat.le_of_ble_eq_true rfl) rfl).trans (qM_isPerson_0 (am_g d) 999999 x1 h)
def rM_isThing (d n i : Nat) (ls : am_L) (h : am_H) : am_Z := am_run 0 (fun _ => 0) cM_isThing (am_g d) n i ls h
theorem gM_isThing (d : Nat) (x1 : Int32) (h : am_H) : am_g (d + 1) 111 [vr 7 82, vi x1] h =
  am_r1 (am_g d 95 [vl (Int32.toInt64 x1), vl (Int32.toInt64 0), vl (Int32.toInt64 ((h 95 0) - 1))] h) fun h1 v2 =>
  if v2 &&& 1 = v2 then some (h1, some v2) else none := (am_g_run (tb := cM_isThing) rfl rfl (Nat.le_of_ble_eq_true rfl) rfl).trans (qM_isThing_0 (am_g d) 999999 x1 h)
def rM_hourOf (d n i : Nat) (ls : am_L) (h : am_H) : am_Z := am_run 0 (fun _ => 0) cM_hourOf (am_g d) n i ls h
theorem gM_hourOf (d : Nat) (x1 : Int32) (h : am_H) : am_g (d + 1) 112 [vr 7 82, vi x1] h =
  am_b 12 x1 fun j1 =>
  am_b 12 x1 fun j2 =>
  if h 85 j2 = 0 then none else
  some (h, some ((12 * (h 86 j1)) / (h 85 j2))) := (am_g_run (tb := cM_hourOf) rfl rfl (Nat.le_of_ble_eq_true rfl) rfl).trans (qM_hourOf_0 (am_g d) 999999 x1 h)
def rM_oldBy (d n i : Nat) (ls : am_L) (h : am_H) : am_Z := am_run 0 (fun _ => 0) cM_oldBy (am_g d) n i ls h
theorem gM_oldBy (d : Nat) (x1 : Int32) (x2 : Int32) (h : am_H) : am_g (d + 1) 113 [vr 7 82, vi x1, vi x2] h =
  am_b 12 x1 fun j1 =>
  am_b 12 x1 fun j2 =>
  if h 86 j2 = 0 then none else
  some (h, some ((x2 * (h 85 j1)) * (12 / (h 86 j2)))) := (am_g_run (tb := cM_oldBy) rfl rfl (Nat.le_of_ble_eq_true rfl) rfl).trans (qM_oldBy_0 (am_g d) 999999 x1 x2 h)
def rM_goBy (d n i : Nat) (ls : am_L) (h : am_H) : am_Z := am_run 0 (fun _ => 0) cM_goBy (am_g d) n i ls h
theorem gM_goBy (d : Nat) (x1 : Int32) (x2 : Int32) (h : am_H) : am_g (d + 1) 114 [vr 7 82, vi x1, vi x2] h =
  am_b 4 x1 fun j1 =>
  am_b 4 x1 fun j2 =>
  am_r1 (am_g d 112 [vr 7 82, vi (h 108 j2)] h) fun h3 v4 =>
  am_b 4 x1 fun j5 =>
  am_b 4 x1 fun j6 =>
  am_b 4 x1 fun j7 =>
  rM_goBy d 999999 26 [some (vr 7 82), some (vi x1), some (vi x2), some (vi 0)] (am_up (am_up h3 109 j5 ((h 109 j1) + (x2 * v4))) 110 j7 ((h3 110 j6) + x2)) := (am_g_run (tb := cM_goBy) rfl rfl (Nat.le_of_ble_eq_true rfl) rfl).trans (qM_goBy_0 (am_g d) 999999 x1 x2 h)
theorem tM_goBy_26 (d n : Nat) (x1 : Int32) (x2 : Int32) (x3 : Int32) (h : am_H) : rM_goBy d (n + 1) 26 [some (vr 7 82), some (vi x1), some (vi x2), some (vi x3)] h =
  if x3 < (h 95 0) then
    (am_b 5 x3 fun j1 =>
    am_b 5 x3 fun j2 =>
    if (h 112 j2) = x1 then
      (am_b 5 x3 fun j3 =>
      rM_goBy d n 26 [some (vr 7 82), some (vi x1), some (vi x2), some (vi (x3 + 1))] (am_up h 114 j3 ((h 114 j1) + (144 * x2))))
    else am_b 5 x3 fun j4 =>
    rM_goBy d n 26 [some (vr 7 82), some (vi x1), some (vi x2), some (vi (x3 + 1))] (am_up h 114 j4 ((h 114 j1) + 0)))
  else am_b 4 x1 fun j5 =>
  am_b 4 x1 fun j6 =>
  am_b 164 (((41 * x1) + (h 115 j5)) - 1) fun j7 =>
  some (am_up h 118 j7 (h 109 j6), none) := qM_goBy_26 (am_g d) n x1 x2 x3 h
def rM_isBeside (d n i : Nat) (ls : am_L) (h : am_H) : am_Z := am_run 0 (fun _ => 0) cM_isBeside (am_g d) n i ls h
theorem gM_isBeside (d : Nat) (x1 : Int32) (x2 : Int32) (h : am_H) : am_g (d + 1) 115 [vr 7 82, vi x1, vi x2] h =
  am_b 16 x1 fun j1 =>
  if (h 89 j1) = x2 then
    (some (h, some 1))
  else am_b 16 x1 fun j2 =>
  if (h 90 j2) = x2 then
    (some (h, some 1))
  else some (h, some 0) := (am_g_run (tb := cM_isBeside) rfl rfl (Nat.le_of_ble_eq_true rfl) rfl).trans (qM_isBeside_0 (am_g d) 999999 x1 x2 h)
def rM_leadFrom (d n i : Nat) (ls : am_L) (h : am_H) : am_Z := am_run 0 (fun _ => 0) cM_leadFrom (am_g d) n i ls h
theorem gM_leadFrom (d : Nat) (x1 : Int32) (x2 : Int32) (h : am_H) : am_g (d + 1) 116 [vr 7 82, vi x1, vi x2] h =
  am_b 16 x1 fun j1 =>
  if (h 89 j1) = x2 then
    (am_b 16 x1 fun j2 =>
    some (h, some (h 91 j2)))
  else am_b 16 x1 fun j3 =>
  some (h, some (-(h 91 j3))) := (am_g_run (tb := cM_leadFrom) rfl rfl (Nat.le_of_ble_eq_true rfl) rfl).trans (qM_leadFrom_0 (am_g d) 999999 x1 x2 h)
def rM_beyond (d n i : Nat) (ls : am_L) (h : am_H) : am_Z := am_run 0 (fun _ => 0) cM_beyond (am_g d) n i ls h
theorem gM_beyond (d : Nat) (x1 : Int32) (x2 : Int32) (h : am_H) : am_g (d + 1) 117 [vr 7 82, vi x1, vi x2] h =
  am_b 16 x1 fun j1 =>
  if (h 89 j1) = x2 then
    (am_b 16 x1 fun j2 =>
    some (h, some (h 90 j2)))
  else am_b 16 x1 fun j3 =>
  some (h, some (h 89 j3)) := (am_g_run (tb := cM_beyond) rfl rfl (Nat.le_of_ble_eq_true rfl) rfl).trans (qM_beyond_0 (am_g d) 999999 x1 x2 h)
def rM_comeIn (d n i : Nat) (ls : am_L) (h : am_H) : am_Z := am_run 0 (fun _ => 0) cM_comeIn (am_g d) n i ls h
theorem gM_comeIn (d : Nat) (x1 : Int32) (x2 : Int32) (h : am_H) : am_g (d + 1) 118 [vr 7 82, vi x1, vi x2] h =
  am_b 4 x1 fun j1 =>
  am_b 4 x1 fun j2 =>
  am_b 164 ((41 * x1) + (h 115 j1)) fun j3 =>
  am_b 4 x1 fun j4 =>
  am_b 164 ((41 * x1) + (h 115 j1)) fun j5 =>
  am_b 4 x1 fun j6 =>
  am_b 164 ((41 * x1) + (h 115 j1)) fun j7 =>
  am_b 4 x1 fun j8 =>
  am_b 4 x1 fun j9 =>
  some (am_up (am_up (am_up (am_up (am_up h 108 j2 x2) 116 j3 x2) 117 j5 (h 109 j4)) 118 j7 (h 109 j6)) 115 j9 ((h 115 j8) + 1), none) := (am_g_run (tb := cM_comeIn) rfl rfl (Nat.le_of_ble_eq_true rfl) rfl).trans (qM_comeIn_0 (am_g d) 999999 x1 x2 h)
def rM_goDoor (d n i : Nat) (ls : am_L) (h : am_H) : am_Z := am_run 0 (fun _ => 0) cM_goDoor (am_g d) n i ls h
theorem gM_goDoor (d : Nat) (x1 : Int32) (x2 : Int32) (h : am_H) : am_g (d + 1) 119 [vr 7 82, vi x1, vi x2] h =
  am_b 4 x1 fun j1 =>
  am_r1 (am_g d 115 [vr 7 82, vi x2, vi (h 108 j1)] h) fun h2 v3 =>
  if v3 = 0 then
    (some (h2, some 0))
  else am_r0 (am_g d 114 [vr 7 82, vi x1, vi (h2 99 0)] h2) fun h4 =>
  am_b 4 x1 fun j5 =>
  am_b 4 x1 fun j6 =>
  am_r1 (am_g d 116 [vr 7 82, vi x2, vi (h4 108 j5)] h4) fun h7 v8 =>
  am_b 4 x1 fun j9 =>
  am_r1 (am_g d 117 [vr 7 82, vi x2, vi (h4 108 j5)] (am_up h7 109 j9 ((h4 109 j6) + (12 * v8)))) fun h10 v11 =>
  am_r0 (am_g d 118 [vr 7 82, vi x1, vi v11] h10) fun h12 =>
  some (h12, some 1) := (am_g_run (tb := cM_goDoor) rfl rfl (Nat.le_of_ble_eq_true rfl) rfl).trans (qM_goDoor_0 (am_g d) 999999 x1 x2 h)
def rM_takeUp (d n i : Nat) (ls : am_L) (h : am_H) : am_Z := am_run 0 (fun _ => 0) cM_takeUp (am_g d) n i ls h
theorem gM_takeUp (d : Nat) (x1 : Int32) (x2 : Int32) (h : am_H) : am_g (d + 1) 120 [vr 7 82, vi x1, vi x2] h =
  am_b 5 x2 fun j1 =>
  am_b 4 x1 fun j2 =>
  if (h 111 j1) = (h 108 j2) then
    (am_b 5 x2 fun j3 =>
    am_b 4 x1 fun j4 =>
    if (h 109 j4) < (h 113 j3) then
      (some (h, some 0))
    else am_b 5 x2 fun j5 =>
    am_b 4 x1 fun j6 =>
    am_b 4 x1 fun j7 =>
    am_b 5 x2 fun j8 =>
    am_r1 (am_g d 113 [vr 7 82, vi (h 108 j6), vi ((h 109 j7) - (h 113 j8))] h) fun h9 v10 =>
    am_b 5 x2 fun j11 =>
    am_b 5 x2 fun j12 =>
    am_b 5 x2 fun j13 =>
    some (am_up (am_up (am_up h9 114 j11 ((h 114 j5) + v10)) 111 j12 (-4)) 112 j13 x1, some 1))
  else some (h, some 0) := (am_g_run (tb := cM_takeUp) rfl rfl (Nat.le_of_ble_eq_true rfl) rfl).trans (qM_takeUp_0 (am_g d) 999999 x1 x2 h)
def rM_putDown (d n i : Nat) (ls : am_L) (h : am_H) : am_Z := am_run 0 (fun _ => 0) cM_putDown (am_g d) n i ls h
theorem gM_putDown (d : Nat) (x1 : Int32) (x2 : Int32) (h : am_H) : am_g (d + 1) 121 [vr 7 82, vi x1, vi x2] h =
  am_b 5 x2 fun j1 =>
  if (h 112 j1) = x1 then
    (am_b 5 x2 fun j2 =>
    am_b 4 x1 fun j3 =>
    am_b 5 x2 fun j4 =>
    am_b 4 x1 fun j5 =>
    am_b 5 x2 fun j6 =>
    some (am_up (am_up (am_up h 112 j2 (-4)) 111 j4 (h 108 j3)) 113 j6 (h 109 j5), some 1))
  else some (h, some 0) := (am_g_run (tb := cM_putDown) rfl rfl (Nat.le_of_ble_eq_true rfl) rfl).trans (qM_putDown_0 (am_g d) 999999 x1 x2 h)
def rM_doAct (d n i : Nat) (ls : am_L) (h : am_H) : am_Z := am_run 0 (fun _ => 0) cM_doAct (am_g d) n i ls h
theorem gM_doAct (d : Nat) (x1 : Int32) (x2 : Int32) (x3 : Int32) (h : am_H) : am_g (d + 1) 122 [vr 7 82, vi x1, vi x2, vi x3] h =
  if x1 = nI 0 then
    (am_r0 (am_g d 114 [vr 7 82, vi x2, vi x3] h) fun h1 =>
    some (h1, some 1))
  else if x1 = nI 1 then
    (am_r1 (am_g d 119 [vr 7 82, vi x2, vi x3] h) fun h2 v3 =>
    if v3 &&& 1 = v3 then some (h2, some v3) else none)
  else if x1 = nI 2 then
    (am_r1 (am_g d 120 [vr 7 82, vi x2, vi x3] h) fun h4 v5 =>
    if v5 &&& 1 = v5 then some (h4, some v5) else none)
  else am_r1 (am_g d 121 [vr 7 82, vi x2, vi x3] h) fun h6 v7 =>
  if v7 &&& 1 = v7 then some (h6, some v7) else none := (am_g_run (tb := cM_doAct) rfl rfl (Nat.le_of_ble_eq_true rfl) rfl).trans (qM_doAct_0 (am_g d) 999999 x1 x2 x3 h)
def rM_goAll (d n i : Nat) (ls : am_L) (h : am_H) : am_Z := am_run 0 (fun _ => 0) cM_goAll (am_g d) n i ls h
theorem gM_goAll (d : Nat)  (h : am_H) : am_g (d + 1) 123 [vr 7 82] h =
  rM_goAll d 999999 3 [some (vr 7 82), some (vi 0)] h := (am_g_run (tb := cM_goAll) rfl rfl (Nat.le_of_ble_eq_true rfl) rfl).trans (qM_goAll_0 (am_g d) 999999  h)
theorem tM_goAll_3 (d n : Nat) (x1 : Int32) (h : am_H) : rM_goAll d (n + 1) 3 [some (vr 7 82), some (vi x1)] h =
  if x1 < (h 92 0) then
    (am_b 4 x1 fun j1 =>
    am_b 8 x1 fun j2 =>
    am_b 4 x1 fun j3 =>
    am_b 4 x1 fun j4 =>
    am_b 8 x1 fun j5 =>
    am_r0 (am_g d 118 [vr 7 82, vi x1, vi (h 93 j5)] (am_up (am_up (am_up h 109 j1 0) 110 j3 (h 94 j2)) 115 j4 0)) fun h6 =>
    rM_goAll d n 3 [some (vr 7 82), some (vi (x1 + 1))] h6)
  else rM_goAll d n 39 [some (vr 7 82), some (vi 0)] h := qM_goAll_3 (am_g d) n x1 h
theorem tM_goAll_39 (d n : Nat) (x1 : Int32) (h : am_H) : rM_goAll d (n + 1) 39 [some (vr 7 82), some (vi x1)] h =
  if x1 < (h 95 0) then
    (am_b 10 x1 fun j1 =>
    am_b 5 x1 fun j2 =>
    am_b 5 x1 fun j3 =>
    am_b 5 x1 fun j4 =>
    am_b 5 x1 fun j5 =>
    rM_goAll d n 39 [some (vr 7 82), some (vi (x1 + 1))] (am_up (am_up (am_up (am_up h 111 j2 (h 96 j1)) 112 j3 (-4)) 113 j4 0) 114 j5 0))
  else rM_goAll d n 73 [some (vr 7 82), some (vi 0)] h := qM_goAll_39 (am_g d) n x1 h
theorem tM_goAll_73 (d n : Nat) (x1 : Int32) (h : am_H) : rM_goAll d (n + 1) 73 [some (vr 7 82), some (vi x1)] h =
  if x1 < (h 100 0) then
    (am_b 120 x1 fun j1 =>
    am_b 120 x1 fun j2 =>
    am_b 120 x1 fun j3 =>
    am_r1 (am_g d 122 [vr 7 82, vi (h 101 j1), vi (h 102 j2), vi (h 103 j3)] h) fun h4 v5 =>
    rM_goAll d n 73 [some (vr 7 82), some (vi (x1 + 1))] h4)
  else some (h, none) := qM_goAll_73 (am_g d) n x1 h
def rM_common (d n i : Nat) (ls : am_L) (h : am_H) : am_Z := am_run 0 (fun _ => 0) cM_common (am_g d) n i ls h
theorem gM_common (d : Nat) (x0 : Int32) (x1 : Int32) (h : am_H) : am_g (d + 1) 124 [vi x0, vi x1] h =
  rM_common d 999999 5 [some (vi x0), some (vi x1), some (vi x0), some (vi x1), none] h := (am_g_run (tb := cM_common) rfl rfl (Nat.le_of_ble_eq_true rfl) rfl).trans (qM_common_0 (am_g d) 999999 x0 x1 h)
theorem tM_common_5 (d n : Nat) (x0 : Int32) (x1 : Int32) (x2 : Int32) (x3 : Int32) (u4 : Option am_V) (h : am_H) : rM_common d (n + 1) 5 [some (vi x0), some (vi x1), some (vi x2), some (vi x3), u4] h =
  if x3 = 0 then
    (some (h, some x2))
  else if x3 = 0 then none else
  rM_common d n 5 [some (vi x0), some (vi x1), some (vi x3), some (vi (am_rem x2 x3)), some (vi (am_rem x2 x3))] h := qM_common_5 (am_g d) n x0 x1 x2 x3 u4 h
def rM_room (d n i : Nat) (ls : am_L) (h : am_H) : am_Z := am_run 0 (fun _ => 0) cM_room (am_g d) n i ls h
theorem gM_room (d : Nat) (x1 : Int32) (x2 : Int32) (h : am_H) : am_g (d + 1) 125 [vr 7 82, vi x1, vi x2] h =
  am_r1 (am_g d 108 [vr 7 82, vi x1] h) fun h1 v2 =>
  if v2 = 0 then
    (some (h1, some (-1)))
  else am_r1 (am_g d 95 [vl (Int32.toInt64 x2), vl (Int32.toInt64 0), vl (Int32.toInt64 3)] h1) fun h3 v4 =>
  if v4 = 0 then
    (some (h3, some (-1)))
  else if x2 = 0 then
    (am_b 12 x1 fun j5 =>
    some (h3, some (h3 85 j5)))
  else if x2 = 1 then
    (am_b 12 x1 fun j6 =>
    some (h3, some (h3 86 j6)))
  else if x2 = 2 then
    (am_b 12 x1 fun j7 =>
    some (h3, some (h3 87 j7)))
  else am_r1 (am_g d 112 [vr 7 82, vi x1] h3) fun h8 v9 =>
  some (h8, some v9) := (am_g_run (tb := cM_room) rfl rfl (Nat.le_of_ble_eq_true rfl) rfl).trans (qM_room_0 (am_g d) 999999 x1 x2 h)
def rM_modulo (d n i : Nat) (ls : am_L) (h : am_H) : am_Z := am_run 0 (fun _ => 0) cM_modulo (am_g d) n i ls h
theorem gM_modulo (d : Nat) (x0 : Int32) (x1 : Int32) (h : am_H) : am_g (d + 1) 126 [vi x0, vi x1] h =
  if x1 = 0 then none else
  if x1 = 0 then none else
  some (h, some (am_rem ((am_rem x0 x1) + x1) x1)) := (am_g_run (tb := cM_modulo) rfl rfl (Nat.le_of_ble_eq_true rfl) rfl).trans (qM_modulo_0 (am_g d) 999999 x0 x1 h)
def rM_clock (d n i : Nat) (ls : am_L) (h : am_H) : am_Z := am_run 0 (fun _ => 0) cM_clock (am_g d) n i ls h
theorem gM_clock (d : Nat) (x1 : Int32) (x2 : Int32) (x3 : Int32) (h : am_H) : am_g (d + 1) 127 [vr 7 82, vi x1, vi x2, vi x3] h =
  am_r1 (am_g d 108 [vr 7 82, vi x1] h) fun h1 v2 =>
  if v2 = 0 then
    (some (h1, some (-1)))
  else am_r1 (am_g d 95 [vl (Int32.toInt64 x2), vl (Int32.toInt64 (-9999)), vl (Int32.toInt64 9999)] h1) fun h3 v4 =>
  if v4 = 0 then
    (some (h3, some (-1)))
  else am_r1 (am_g d 95 [vl (Int32.toInt64 x3), vl (Int32.toInt64 0), vl (Int32.toInt64 1)] h3) fun h5 v6 =>
  if v6 = 0 then
    (some (h5, some (-1)))
  else am_b 12 x1 fun j7 =>
  am_b 12 x1 fun j8 =>
  am_b 12 x1 fun j9 =>
  am_r1 (am_g d 126 [vi (((h5 87 j8) * (12 * (h5 86 j7))) + (x2 * (h5 85 j9))), vi (24 * (12 * (h5 86 j7)))] h5) fun h10 v11 =>
  am_r1 (am_g d 124 [vi v11, vi (12 * (h5 86 j7))] h10) fun h12 v13 =>
  if x3 = 0 then
    (if v13 = 0 then none else
    some (h12, some (v11 / v13)))
  else if v13 = 0 then none else
  some (h12, some ((12 * (h5 86 j7)) / v13)) := (am_g_run (tb := cM_clock) rfl rfl (Nat.le_of_ble_eq_true rfl) rfl).trans (qM_clock_0 (am_g d) 999999 x1 x2 x3 h)
def rM_door (d n i : Nat) (ls : am_L) (h : am_H) : am_Z := am_run 0 (fun _ => 0) cM_door (am_g d) n i ls h
theorem gM_door (d : Nat) (x1 : Int32) (x2 : Int32) (h : am_H) : am_g (d + 1) 128 [vr 7 82, vi x1, vi x2] h =
  am_r1 (am_g d 109 [vr 7 82, vi x1] h) fun h1 v2 =>
  if v2 = 0 then
    (some (h1, some (-1)))
  else am_r1 (am_g d 95 [vl (Int32.toInt64 x2), vl (Int32.toInt64 0), vl (Int32.toInt64 2)] h1) fun h3 v4 =>
  if v4 = 0 then
    (some (h3, some (-1)))
  else if x2 = 0 then
    (am_b 16 x1 fun j5 =>
    some (h3, some (h3 89 j5)))
  else if x2 = 1 then
    (am_b 16 x1 fun j6 =>
    some (h3, some (h3 90 j6)))
  else am_b 16 x1 fun j7 =>
  some (h3, some ((h3 91 j7) + 24)) := (am_g_run (tb := cM_door) rfl rfl (Nat.le_of_ble_eq_true rfl) rfl).trans (qM_door_0 (am_g d) 999999 x1 x2 h)
def rM_thingsOf (d n i : Nat) (ls : am_L) (h : am_H) : am_Z := am_run 0 (fun _ => 0) cM_thingsOf (am_g d) n i ls h
theorem gM_thingsOf (d : Nat) (x1 : Int32) (h : am_H) : am_g (d + 1) 129 [vr 7 82, vi x1] h =
  rM_thingsOf d 999999 5 [some (vr 7 82), some (vi x1), some (vi 0), some (vi 0)] h := (am_g_run (tb := cM_thingsOf) rfl rfl (Nat.le_of_ble_eq_true rfl) rfl).trans (qM_thingsOf_0 (am_g d) 999999 x1 h)
theorem tM_thingsOf_5 (d n : Nat) (x1 : Int32) (x2 : Int32) (x3 : Int32) (h : am_H) : rM_thingsOf d (n + 1) 5 [some (vr 7 82), some (vi x1), some (vi x2), some (vi x3)] h =
  if x3 < (h 95 0) then
    (am_b 5 x3 fun j1 =>
    if (h 112 j1) = x1 then
      (rM_thingsOf d n 5 [some (vr 7 82), some (vi x1), some (vi (x2 ||| ((1 : Int32) <<< (x3 &&& 31)))), some (vi (x3 + 1))] h)
    else rM_thingsOf d n 5 [some (vr 7 82), some (vi x1), some (vi (x2 ||| 0)), some (vi (x3 + 1))] h)
  else some (h, some x2) := qM_thingsOf_5 (am_g d) n x1 x2 x3 h
def rM_person (d n i : Nat) (ls : am_L) (h : am_H) : am_Z := am_run 0 (fun _ => 0) cM_person (am_g d) n i ls h
theorem gM_person (d : Nat) (x1 : Int32) (x2 : Int32) (h : am_H) : am_g (d + 1) 130 [vr 7 82, vi x1, vi x2] h =
  am_r1 (am_g d 110 [vr 7 82, vi x1] h) fun h1 v2 =>
  if v2 = 0 then
    (some (h1, some (-1)))
  else am_r1 (am_g d 95 [vl (Int32.toInt64 x2), vl (Int32.toInt64 0), vl (Int32.toInt64 4)] h1) fun h3 v4 =>
  if v4 = 0 then
    (some (h3, some (-1)))
  else if x2 = nI 0 then
    (am_b 4 x1 fun j5 =>
    some (h3, some (h3 108 j5)))
  else if x2 = nI 1 then
    (am_b 4 x1 fun j6 =>
    some (h3, some ((h3 109 j6) + 100000)))
  else if x2 = nI 2 then
    (am_b 4 x1 fun j7 =>
    some (h3, some (h3 110 j7)))
  else if x2 = nI 3 then
    (am_r1 (am_g d 129 [vr 7 82, vi x1] h3) fun h8 v9 =>
    some (h8, some v9))
  else am_b 4 x1 fun j10 =>
  some (h3, some (h3 115 j10)) := (am_g_run (tb := cM_person) rfl rfl (Nat.le_of_ble_eq_true rfl) rfl).trans (qM_person_0 (am_g d) 999999 x1 x2 h)
def rM_thing (d n i : Nat) (ls : am_L) (h : am_H) : am_Z := am_run 0 (fun _ => 0) cM_thing (am_g d) n i ls h
theorem gM_thing (d : Nat) (x1 : Int32) (x2 : Int32) (h : am_H) : am_g (d + 1) 131 [vr 7 82, vi x1, vi x2] h =
  am_r1 (am_g d 111 [vr 7 82, vi x1] h) fun h1 v2 =>
  if v2 = 0 then
    (some (h1, some (-1)))
  else am_r1 (am_g d 95 [vl (Int32.toInt64 x2), vl (Int32.toInt64 0), vl (Int32.toInt64 5)] h1) fun h3 v4 =>
  if v4 = 0 then
    (some (h3, some (-1)))
  else if x2 = nI 0 then
    (am_b 10 x1 fun j5 =>
    some (h3, some (h3 97 j5)))
  else if x2 = nI 1 then
    (am_b 10 x1 fun j6 =>
    some (h3, some (h3 98 j6)))
  else if x2 = nI 2 then
    (am_b 5 x1 fun j7 =>
    some (h3, some (h3 111 j7)))
  else if x2 = nI 3 then
    (am_b 5 x1 fun j8 =>
    some (h3, some (h3 112 j8)))
  else if x2 = nI 4 then
    (am_b 5 x1 fun j9 =>
    if (h3 111 j9) < 0 then
      (some (h3, some (-4)))
    else am_b 5 x1 fun j10 =>
    some (h3, some ((h3 113 j10) + 100000)))
  else am_b 5 x1 fun j11 =>
  some (h3, some ((h3 114 j11) / 144)) := (am_g_run (tb := cM_thing) rfl rfl (Nat.le_of_ble_eq_true rfl) rfl).trans (qM_thing_0 (am_g d) 999999 x1 x2 h)
def rM_worthOf (d n i : Nat) (ls : am_L) (h : am_H) : am_Z := am_run 0 (fun _ => 0) cM_worthOf (am_g d) n i ls h
theorem gM_worthOf (d : Nat) (x1 : Int32) (x2 : Int32) (h : am_H) : am_g (d + 1) 132 [vr 7 82, vi x1, vi x2] h =
  am_b 10 x1 fun j1 =>
  if (h 97 j1) = nI 0 then
    (am_b 10 x1 fun j2 =>
    some (h, some (h 98 j2)))
  else if (h 97 j1) = nI 1 then
    (am_b 10 x1 fun j3 =>
    if (x2 / 144) < (h 98 j3) then
      (am_b 10 x1 fun j4 =>
      some (h, some ((h 98 j4) - (x2 / 144))))
    else some (h, some 0))
  else if (h 97 j1) = nI 2 then
    (am_b 10 x1 fun j5 =>
    if (x2 / 144) < (h 98 j5) then
      (some (h, some 0))
    else some (h, some 1))
  else am_b 10 x1 fun j6 =>
  if (x2 / 144) < (h 98 j6) then
    (some (h, some 1))
  else some (h, some 0) := (am_g_run (tb := cM_worthOf) rfl rfl (Nat.le_of_ble_eq_true rfl) rfl).trans (qM_worthOf_0 (am_g d) 999999 x1 x2 h)
def rM_worth (d n i : Nat) (ls : am_L) (h : am_H) : am_Z := am_run 0 (fun _ => 0) cM_worth (am_g d) n i ls h
theorem gM_worth (d : Nat) (x1 : Int32) (x2 : Int32) (h : am_H) : am_g (d + 1) 133 [vr 7 82, vi x1, vi x2] h =
  am_r1 (am_g d 111 [vr 7 82, vi x1] h) fun h1 v2 =>
  if v2 = 0 then
    (some (h1, some (-1)))
  else am_r1 (am_g d 95 [vl (Int32.toInt64 x2), vl (Int32.toInt64 (-9999)), vl (Int32.toInt64 9999)] h1) fun h3 v4 =>
  if v4 = 0 then
    (some (h3, some (-1)))
  else am_b 5 x1 fun j5 =>
  if (h3 111 j5) < 0 then
    (some (h3, some (-2)))
  else am_b 5 x1 fun j6 =>
  if x2 < (h3 113 j6) then
    (some (h3, some (-2)))
  else am_b 5 x1 fun j7 =>
  am_b 5 x1 fun j8 =>
  am_b 5 x1 fun j9 =>
  am_r1 (am_g d 113 [vr 7 82, vi (h3 111 j8), vi (x2 - (h3 113 j9))] h3) fun h10 v11 =>
  am_r1 (am_g d 132 [vr 7 82, vi x1, vi ((h3 114 j7) + v11)] h10) fun h12 v13 =>
  some (h12, some v13) := (am_g_run (tb := cM_worth) rfl rfl (Nat.le_of_ble_eq_true rfl) rfl).trans (qM_worth_0 (am_g d) 999999 x1 x2 h)
def rM_note (d n i : Nat) (ls : am_L) (h : am_H) : am_Z := am_run 0 (fun _ => 0) cM_note (am_g d) n i ls h
theorem gM_note (d : Nat) (x1 : Int32) (x2 : Int32) (x3 : Int32) (h : am_H) : am_g (d + 1) 134 [vr 7 82, vi x1, vi x2, vi x3] h =
  am_b 120 (h 100 0) fun j1 =>
  am_b 120 (h 100 0) fun j2 =>
  am_b 120 (h 100 0) fun j3 =>
  some (am_up (am_up (am_up (am_up h 101 j1 x1) 102 j2 x2) 103 j3 x3) 100 0 ((h 100 0) + 1), none) := (am_g_run (tb := cM_note) rfl rfl (Nat.le_of_ble_eq_true rfl) rfl).trans (qM_note_0 (am_g d) 999999 x1 x2 x3 h)
def rM_bits (d n i : Nat) (ls : am_L) (h : am_H) : am_Z := am_run 0 (fun _ => 0) cM_bits (am_g d) n i ls h
theorem gM_bits (d : Nat) (x0 : Int32) (h : am_H) : am_g (d + 1) 135 [vi x0] h =
  rM_bits d 999999 5 [some (vi x0), some (vi 0), some (vi x0)] h := (am_g_run (tb := cM_bits) rfl rfl (Nat.le_of_ble_eq_true rfl) rfl).trans (qM_bits_0 (am_g d) 999999 x0 h)
theorem tM_bits_5 (d n : Nat) (x0 : Int32) (x1 : Int32) (x2 : Int32) (h : am_H) : rM_bits d (n + 1) 5 [some (vi x0), some (vi x1), some (vi x2)] h =
  if x2 = 0 then
    (some (h, some x1))
  else rM_bits d n 5 [some (vi x0), some (vi (x1 + 1)), some (vi (x2 &&& (x2 - 1)))] h := qM_bits_5 (am_g d) n x0 x1 x2 h
def rM_stay (d n i : Nat) (ls : am_L) (h : am_H) : am_Z := am_run 0 (fun _ => 0) cM_stay (am_g d) n i ls h
theorem gM_stay (d : Nat) (x1 : Int32) (x2 : Int32) (h : am_H) : am_g (d + 1) 136 [vr 7 82, vi x1, vi x2] h =
  am_r1 (am_g d 110 [vr 7 82, vi x1] h) fun h1 v2 =>
  if v2 = 0 then
    (some (h1, some (-1)))
  else am_r1 (am_g d 95 [vl (Int32.toInt64 x2), vl (Int32.toInt64 1), vl (Int32.toInt64 24)] h1) fun h3 v4 =>
  if v4 = 0 then
    (some (h3, some (-1)))
  else if (h3 100 0) = 40 then
    (some (h3, some (-3)))
  else am_r0 (am_g d 134 [vr 7 82, vi 0, vi x1, vi x2] h3) fun h5 =>
  am_r1 (am_g d 122 [vr 7 82, vi 0, vi x1, vi x2] h5) fun h6 v7 =>
  am_b 4 x1 fun j8 =>
  some (h6, some ((h6 109 j8) + 100000)) := (am_g_run (tb := cM_stay) rfl rfl (Nat.le_of_ble_eq_true rfl) rfl).trans (qM_stay_0 (am_g d) 999999 x1 x2 h)
def rM_go (d n i : Nat) (ls : am_L) (h : am_H) : am_Z := am_run 0 (fun _ => 0) cM_go (am_g d) n i ls h
theorem gM_go (d : Nat) (x1 : Int32) (x2 : Int32) (h : am_H) : am_g (d + 1) 137 [vr 7 82, vi x1, vi x2] h =
  am_r1 (am_g d 110 [vr 7 82, vi x1] h) fun h1 v2 =>
  if v2 = 0 then
    (some (h1, some (-1)))
  else am_r1 (am_g d 109 [vr 7 82, vi x2] h1) fun h3 v4 =>
  if v4 = 0 then
    (some (h3, some (-1)))
  else am_b 4 x1 fun j5 =>
  am_r1 (am_g d 115 [vr 7 82, vi x2, vi (h3 108 j5)] h3) fun h6 v7 =>
  if v7 = 0 then
    (some (h6, some (-2)))
  else if (h6 100 0) = 40 then
    (some (h6, some (-3)))
  else am_r0 (am_g d 134 [vr 7 82, vi 1, vi x1, vi x2] h6) fun h8 =>
  am_r1 (am_g d 122 [vr 7 82, vi 1, vi x1, vi x2] h8) fun h9 v10 =>
  am_b 4 x1 fun j11 =>
  some (h9, some ((h9 109 j11) + 100000)) := (am_g_run (tb := cM_go) rfl rfl (Nat.le_of_ble_eq_true rfl) rfl).trans (qM_go_0 (am_g d) 999999 x1 x2 h)
def rM_take (d n i : Nat) (ls : am_L) (h : am_H) : am_Z := am_run 0 (fun _ => 0) cM_take (am_g d) n i ls h
theorem gM_take (d : Nat) (x1 : Int32) (x2 : Int32) (h : am_H) : am_g (d + 1) 138 [vr 7 82, vi x1, vi x2] h =
  am_r1 (am_g d 110 [vr 7 82, vi x1] h) fun h1 v2 =>
  if v2 = 0 then
    (some (h1, some (-1)))
  else am_r1 (am_g d 111 [vr 7 82, vi x2] h1) fun h3 v4 =>
  if v4 = 0 then
    (some (h3, some (-1)))
  else am_b 5 x2 fun j5 =>
  am_b 4 x1 fun j6 =>
  if (h3 111 j5) = (h3 108 j6) then
    (am_b 5 x2 fun j7 =>
    am_b 4 x1 fun j8 =>
    if (h3 109 j8) < (h3 113 j7) then
      (some (h3, some (-2)))
    else if (h3 100 0) = 40 then
      (some (h3, some (-3)))
    else am_r0 (am_g d 134 [vr 7 82, vi 2, vi x1, vi x2] h3) fun h9 =>
    am_r1 (am_g d 122 [vr 7 82, vi 2, vi x1, vi x2] h9) fun h10 v11 =>
    am_r1 (am_g d 129 [vr 7 82, vi x1] h10) fun h12 v13 =>
    am_r1 (am_g d 135 [vi v13] h12) fun h14 v15 =>
    some (h14, some v15))
  else some (h3, some (-2)) := (am_g_run (tb := cM_take) rfl rfl (Nat.le_of_ble_eq_true rfl) rfl).trans (qM_take_0 (am_g d) 999999 x1 x2 h)
def rM_put (d n i : Nat) (ls : am_L) (h : am_H) : am_Z := am_run 0 (fun _ => 0) cM_put (am_g d) n i ls h
theorem gM_put (d : Nat) (x1 : Int32) (x2 : Int32) (h : am_H) : am_g (d + 1) 139 [vr 7 82, vi x1, vi x2] h =
  am_r1 (am_g d 110 [vr 7 82, vi x1] h) fun h1 v2 =>
  if v2 = 0 then
    (some (h1, some (-1)))
  else am_r1 (am_g d 111 [vr 7 82, vi x2] h1) fun h3 v4 =>
  if v4 = 0 then
    (some (h3, some (-1)))
  else am_b 5 x2 fun j5 =>
  if (h3 112 j5) = x1 then
    (if (h3 100 0) = 40 then
      (some (h3, some (-3)))
    else am_r0 (am_g d 134 [vr 7 82, vi 3, vi x1, vi x2] h3) fun h6 =>
    am_r1 (am_g d 122 [vr 7 82, vi 3, vi x1, vi x2] h6) fun h7 v8 =>
    am_r1 (am_g d 129 [vr 7 82, vi x1] h7) fun h9 v10 =>
    am_r1 (am_g d 135 [vi v10] h9) fun h11 v12 =>
    some (h11, some v12))
  else some (h3, some (-2)) := (am_g_run (tb := cM_put) rfl rfl (Nat.le_of_ble_eq_true rfl) rfl).trans (qM_put_0 (am_g d) 999999 x1 x2 h)
def rM_undo (d n i : Nat) (ls : am_L) (h : am_H) : am_Z := am_run 0 (fun _ => 0) cM_undo (am_g d) n i ls h
theorem gM_undo (d : Nat)  (h : am_H) : am_g (d + 1) 140 [vr 7 82] h =
  if (h 100 0) = 0 then
    (some (h, some (-2)))
  else am_r0 (am_g d 123 [vr 7 82] (am_up h 100 0 ((h 100 0) - 1))) fun h1 =>
  some (h1, some (h1 100 0)) := (am_g_run (tb := cM_undo) rfl rfl (Nat.le_of_ble_eq_true rfl) rfl).trans (qM_undo_0 (am_g d) 999999  h)
def rM_meet (d n i : Nat) (ls : am_L) (h : am_H) : am_Z := am_run 0 (fun _ => 0) cM_meet (am_g d) n i ls h
theorem gM_meet (d : Nat) (x1 : Int32) (x2 : Int32) (x3 : Int32) (h : am_H) : am_g (d + 1) 141 [vr 7 82, vi x1, vi x2, vi x3] h =
  am_r1 (am_g d 110 [vr 7 82, vi x1] h) fun h1 v2 =>
  if v2 = 0 then
    (some (h1, some (-1)))
  else am_r1 (am_g d 110 [vr 7 82, vi x2] h1) fun h3 v4 =>
  if v4 = 0 then
    (some (h3, some (-1)))
  else am_r1 (am_g d 95 [vl (Int32.toInt64 x3), vl (Int32.toInt64 0), vl (Int32.toInt64 1)] h3) fun h5 v6 =>
  if v6 = 0 then
    (some (h5, some (-1)))
  else rM_meet d 999999 25 [some (vr 7 82), some (vi x1), some (vi x2), some (vi x3), some (vi 1000000), some (vi (-4)), some (vi (41 * x1)), none, none, none] h5 := (am_g_run (tb := cM_meet) rfl rfl (Nat.le_of_ble_eq_true rfl) rfl).trans (qM_meet_0 (am_g d) 999999 x1 x2 x3 h)
theorem tM_meet_25 (d n : Nat) (x1 : Int32) (x2 : Int32) (x3 : Int32) (x4 : Int32) (x5 : Int32) (x6 : Int32) (u7 : Option am_V) (u8 : Option am_V) (u9 : Option am_V) (h : am_H) : rM_meet d (n + 1) 25 [some (vr 7 82), some (vi x1), some (vi x2), some (vi x3), some (vi x4), some (vi x5), some (vi x6), u7, u8, u9] h =
  am_b 4 x1 fun j1 =>
  if x6 < ((41 * x1) + (h 115 j1)) then
    (rM_meet d n 40 [some (vr 7 82), some (vi x1), some (vi x2), some (vi x3), some (vi x4), some (vi x5), some (vi x6), some (vi (41 * x2)), u8, u9] h)
  else if x4 = 1000000 then
    (some (h, some (-4)))
  else if x3 = 0 then
    (some (h, some (x4 + 100000)))
  else some (h, some x5) := qM_meet_25 (am_g d) n x1 x2 x3 x4 x5 x6 u7 u8 u9 h
theorem tM_meet_40 (d n : Nat) (x1 : Int32) (x2 : Int32) (x3 : Int32) (x4 : Int32) (x5 : Int32) (x6 : Int32) (x7 : Int32) (u8 : Option am_V) (u9 : Option am_V) (h : am_H) : rM_meet d (n + 1) 40 [some (vr 7 82), some (vi x1), some (vi x2), some (vi x3), some (vi x4), some (vi x5), some (vi x6), some (vi x7), u8, u9] h =
  am_b 4 x2 fun j1 =>
  if x7 < ((41 * x2) + (h 115 j1)) then
    (am_b 164 x6 fun j2 =>
    am_b 164 x7 fun j3 =>
    if (h 117 j3) < (h 117 j2) then
      (am_b 164 x6 fun j4 =>
      if x6 = x7 then
        (rM_meet d n 40 [some (vr 7 82), some (vi x1), some (vi x2), some (vi x3), some (vi x4), some (vi x5), some (vi x6), some (vi (x7 + 1)), some (vi (h 117 j4)), some (vi 0)] h)
      else am_b 164 x6 fun j5 =>
      am_b 164 x7 fun j6 =>
      if (h 116 j5) = (h 116 j6) then
        (am_b 164 x6 fun j7 =>
        if (h 118 j7) < (h 117 j4) then
          (rM_meet d n 40 [some (vr 7 82), some (vi x1), some (vi x2), some (vi x3), some (vi x4), some (vi x5), some (vi x6), some (vi (x7 + 1)), some (vi (h 117 j4)), some (vi 0)] h)
        else am_b 164 x7 fun j8 =>
        if (h 118 j8) < (h 117 j4) then
          (rM_meet d n 40 [some (vr 7 82), some (vi x1), some (vi x2), some (vi x3), some (vi x4), some (vi x5), some (vi x6), some (vi (x7 + 1)), some (vi (h 117 j4)), some (vi 0)] h)
        else if (h 117 j4) < x4 then
          (am_b 164 x6 fun j9 =>
          rM_meet d n 40 [some (vr 7 82), some (vi x1), some (vi x2), some (vi x3), some (vi (h 117 j4)), some (vi (h 116 j9)), some (vi x6), some (vi (x7 + 1)), some (vi (h 117 j4)), some (vi 1)] h)
        else if (h 117 j4) = x4 then
          (am_b 164 x6 fun j10 =>
          if (h 116 j10) < x5 then
            (am_b 164 x6 fun j11 =>
            rM_meet d n 40 [some (vr 7 82), some (vi x1), some (vi x2), some (vi x3), some (vi (h 117 j4)), some (vi (h 116 j11)), some (vi x6), some (vi (x7 + 1)), some (vi (h 117 j4)), some (vi 1)] h)
          else rM_meet d n 40 [some (vr 7 82), some (vi x1), some (vi x2), some (vi x3), some (vi x4), some (vi x5), some (vi x6), some (vi (x7 + 1)), some (vi (h 117 j4)), some (vi 1)] h)
        else rM_meet d n 40 [some (vr 7 82), some (vi x1), some (vi x2), some (vi x3), some (vi x4), some (vi x5), some (vi x6), some (vi (x7 + 1)), some (vi (h 117 j4)), some (vi 1)] h)
      else rM_meet d n 40 [some (vr 7 82), some (vi x1), some (vi x2), some (vi x3), some (vi x4), some (vi x5), some (vi x6), some (vi (x7 + 1)), some (vi (h 117 j4)), some (vi 0)] h)
    else am_b 164 x7 fun j12 =>
    if x6 = x7 then
      (rM_meet d n 40 [some (vr 7 82), some (vi x1), some (vi x2), some (vi x3), some (vi x4), some (vi x5), some (vi x6), some (vi (x7 + 1)), some (vi (h 117 j12)), some (vi 0)] h)
    else am_b 164 x6 fun j13 =>
    am_b 164 x7 fun j14 =>
    if (h 116 j13) = (h 116 j14) then
      (am_b 164 x6 fun j15 =>
      if (h 118 j15) < (h 117 j12) then
        (rM_meet d n 40 [some (vr 7 82), some (vi x1), some (vi x2), some (vi x3), some (vi x4), some (vi x5), some (vi x6), some (vi (x7 + 1)), some (vi (h 117 j12)), some (vi 0)] h)
      else am_b 164 x7 fun j16 =>
      if (h 118 j16) < (h 117 j12) then
        (rM_meet d n 40 [some (vr 7 82), some (vi x1), some (vi x2), some (vi x3), some (vi x4), some (vi x5), some (vi x6), some (vi (x7 + 1)), some (vi (h 117 j12)), some (vi 0)] h)
      else if (h 117 j12) < x4 then
        (am_b 164 x6 fun j17 =>
        rM_meet d n 40 [some (vr 7 82), some (vi x1), some (vi x2), some (vi x3), some (vi (h 117 j12)), some (vi (h 116 j17)), some (vi x6), some (vi (x7 + 1)), some (vi (h 117 j12)), some (vi 1)] h)
      else if (h 117 j12) = x4 then
        (am_b 164 x6 fun j18 =>
        if (h 116 j18) < x5 then
          (am_b 164 x6 fun j19 =>
          rM_meet d n 40 [some (vr 7 82), some (vi x1), some (vi x2), some (vi x3), some (vi (h 117 j12)), some (vi (h 116 j19)), some (vi x6), some (vi (x7 + 1)), some (vi (h 117 j12)), some (vi 1)] h)
        else rM_meet d n 40 [some (vr 7 82), some (vi x1), some (vi x2), some (vi x3), some (vi x4), some (vi x5), some (vi x6), some (vi (x7 + 1)), some (vi (h 117 j12)), some (vi 1)] h)
      else rM_meet d n 40 [some (vr 7 82), some (vi x1), some (vi x2), some (vi x3), some (vi x4), some (vi x5), some (vi x6), some (vi (x7 + 1)), some (vi (h 117 j12)), some (vi 1)] h)
    else rM_meet d n 40 [some (vr 7 82), some (vi x1), some (vi x2), some (vi x3), some (vi x4), some (vi x5), some (vi x6), some (vi (x7 + 1)), some (vi (h 117 j12)), some (vi 0)] h)
  else rM_meet d n 25 [some (vr 7 82), some (vi x1), some (vi x2), some (vi x3), some (vi x4), some (vi x5), some (vi (x6 + 1)), some (vi x7), u8, u9] h := qM_meet_40 (am_g d) n x1 x2 x3 x4 x5 x6 x7 u8 u9 h
def rM_costOf (d n i : Nat) (ls : am_L) (h : am_H) : am_Z := am_run 0 (fun _ => 0) cM_costOf (am_g d) n i ls h
theorem gM_costOf (d : Nat) (x1 : Int32) (x2 : Int32) (h : am_H) : am_g (d + 1) 142 [vr 7 82, vi x1, vi x2] h =
  am_r1 (am_g d 112 [vr 7 82, vi x2] h) fun h1 v2 =>
  am_r1 (am_g d 116 [vr 7 82, vi x1, vi x2] h1) fun h3 v4 =>
  some (h3, some (((h 99 0) * v2) + (12 * v4))) := (am_g_run (tb := cM_costOf) rfl rfl (Nat.le_of_ble_eq_true rfl) rfl).trans (qM_costOf_0 (am_g d) 999999 x1 x2 h)
def rM_layLow (d n i : Nat) (ls : am_L) (h : am_H) : am_Z := am_run 0 (fun _ => 0) cM_layLow (am_g d) n i ls h
theorem gM_layLow (d : Nat) (x1 : Int32) (x2 : Int32) (h : am_H) : am_g (d + 1) 143 [vr 7 82, vi x1, vi x2] h =
  rM_layLow d 999999 3 [some (vr 7 82), some (vi x1), some (vi x2), some (vi 0), none, none, none, none, none] h := (am_g_run (tb := cM_layLow) rfl rfl (Nat.le_of_ble_eq_true rfl) rfl).trans (qM_layLow_0 (am_g d) 999999 x1 x2 h)
theorem tM_layLow_3 (d n : Nat) (x1 : Int32) (x2 : Int32) (x3 : Int32) (u4 : Option am_V) (u5 : Option am_V) (u6 : Option am_V) (u7 : Option am_V) (u8 : Option am_V) (h : am_H) : rM_layLow d (n + 1) 3 [some (vr 7 82), some (vi x1), some (vi x2), some (vi x3), u4, u5, u6, u7, u8] h =
  if x3 < 54 then
    (am_b 54 x3 fun j1 =>
    rM_layLow d n 3 [some (vr 7 82), some (vi x1), some (vi x2), some (vi (x3 + 1)), u4, u5, u6, u7, u8] (am_up h 119 j1 1000000))
  else am_b 54 x1 fun j2 =>
  rM_layLow d n 21 [some (vr 7 82), some (vi x1), some (vi x2), some (vi 0), u4, u5, u6, u7, u8] (am_up h 119 j2 x2) := qM_layLow_3 (am_g d) n x1 x2 x3 u4 u5 u6 u7 u8 h
theorem tM_layLow_21 (d n : Nat) (x1 : Int32) (x2 : Int32) (x3 : Int32) (u4 : Option am_V) (u5 : Option am_V) (u6 : Option am_V) (u7 : Option am_V) (u8 : Option am_V) (h : am_H) : rM_layLow d (n + 1) 21 [some (vr 7 82), some (vi x1), some (vi x2), some (vi x3), u4, u5, u6, u7, u8] h =
  if x3 < 8 then
    (rM_layLow d n 27 [some (vr 7 82), some (vi x1), some (vi x2), some (vi x3), some (vi 0), u5, u6, u7, u8] h)
  else some (h, none) := qM_layLow_21 (am_g d) n x1 x2 x3 u4 u5 u6 u7 u8 h
theorem tM_layLow_27 (d n : Nat) (x1 : Int32) (x2 : Int32) (x3 : Int32) (x4 : Int32) (u5 : Option am_V) (u6 : Option am_V) (u7 : Option am_V) (u8 : Option am_V) (h : am_H) : rM_layLow d (n + 1) 27 [some (vr 7 82), some (vi x1), some (vi x2), some (vi x3), some (vi x4), u5, u6, u7, u8] h =
  if x4 < (h 88 0) then
    (rM_layLow d n 36 [some (vr 7 82), some (vi x1), some (vi x2), some (vi x3), some (vi x4), some (vi 0), u6, u7, u8] h)
  else rM_layLow d n 21 [some (vr 7 82), some (vi x1), some (vi x2), some (vi (x3 + 1)), some (vi x4), u5, u6, u7, u8] h := qM_layLow_27 (am_g d) n x1 x2 x3 x4 u5 u6 u7 u8 h
theorem tM_layLow_36 (d n : Nat) (x1 : Int32) (x2 : Int32) (x3 : Int32) (x4 : Int32) (x5 : Int32) (u6 : Option am_V) (u7 : Option am_V) (u8 : Option am_V) (h : am_H) : rM_layLow d (n + 1) 36 [some (vr 7 82), some (vi x1), some (vi x2), some (vi x3), some (vi x4), some (vi x5), u6, u7, u8] h =
  if x5 < 2 then
    (if x5 = 0 then
      (am_b 16 x4 fun j1 =>
      am_r1 (am_g d 117 [vr 7 82, vi x4, vi (h 89 j1)] h) fun h2 v3 =>
      am_b 54 ((6 * x3) + (h 89 j1)) fun j4 =>
      am_r1 (am_g d 142 [vr 7 82, vi x4, vi (h 89 j1)] h2) fun h5 v6 =>
      am_b 54 ((6 * x3) + (h 89 j1)) fun j7 =>
      if (h5 119 j7) < 1000000 then
        (am_b 54 ((6 * (x3 + 1)) + v3) fun j8 =>
        if ((h2 119 j4) + v6) < (h5 119 j8) then
          (am_b 54 ((6 * (x3 + 1)) + v3) fun j9 =>
          rM_layLow d n 36 [some (vr 7 82), some (vi x1), some (vi x2), some (vi x3), some (vi x4), some (vi (x5 + 1)), some (vi (h 89 j1)), some (vi ((6 * (x3 + 1)) + v3)), some (vi ((h2 119 j4) + v6))] (am_up h5 119 j9 ((h2 119 j4) + v6)))
        else am_b 54 ((6 * (x3 + 1)) + v3) fun j10 =>
        am_b 54 ((6 * (x3 + 1)) + v3) fun j11 =>
        rM_layLow d n 36 [some (vr 7 82), some (vi x1), some (vi x2), some (vi x3), some (vi x4), some (vi (x5 + 1)), some (vi (h 89 j1)), some (vi ((6 * (x3 + 1)) + v3)), some (vi ((h2 119 j4) + v6))] (am_up h5 119 j11 (h5 119 j10)))
      else am_b 54 ((6 * (x3 + 1)) + v3) fun j12 =>
      am_b 54 ((6 * (x3 + 1)) + v3) fun j13 =>
      rM_layLow d n 36 [some (vr 7 82), some (vi x1), some (vi x2), some (vi x3), some (vi x4), some (vi (x5 + 1)), some (vi (h 89 j1)), some (vi ((6 * (x3 + 1)) + v3)), some (vi ((h2 119 j4) + v6))] (am_up h5 119 j13 (h5 119 j12)))
    else am_b 16 x4 fun j14 =>
    am_r1 (am_g d 117 [vr 7 82, vi x4, vi (h 90 j14)] h) fun h15 v16 =>
    am_b 54 ((6 * x3) + (h 90 j14)) fun j17 =>
    am_r1 (am_g d 142 [vr 7 82, vi x4, vi (h 90 j14)] h15) fun h18 v19 =>
    am_b 54 ((6 * x3) + (h 90 j14)) fun j20 =>
    if (h18 119 j20) < 1000000 then
      (am_b 54 ((6 * (x3 + 1)) + v16) fun j21 =>
      if ((h15 119 j17) + v19) < (h18 119 j21) then
        (am_b 54 ((6 * (x3 + 1)) + v16) fun j22 =>
        rM_layLow d n 36 [some (vr 7 82), some (vi x1), some (vi x2), some (vi x3), some (vi x4), some (vi (x5 + 1)), some (vi (h 90 j14)), some (vi ((6 * (x3 + 1)) + v16)), some (vi ((h15 119 j17) + v19))] (am_up h18 119 j22 ((h15 119 j17) + v19)))
      else am_b 54 ((6 * (x3 + 1)) + v16) fun j23 =>
      am_b 54 ((6 * (x3 + 1)) + v16) fun j24 =>
      rM_layLow d n 36 [some (vr 7 82), some (vi x1), some (vi x2), some (vi x3), some (vi x4), some (vi (x5 + 1)), some (vi (h 90 j14)), some (vi ((6 * (x3 + 1)) + v16)), some (vi ((h15 119 j17) + v19))] (am_up h18 119 j24 (h18 119 j23)))
    else am_b 54 ((6 * (x3 + 1)) + v16) fun j25 =>
    am_b 54 ((6 * (x3 + 1)) + v16) fun j26 =>
    rM_layLow d n 36 [some (vr 7 82), some (vi x1), some (vi x2), some (vi x3), some (vi x4), some (vi (x5 + 1)), some (vi (h 90 j14)), some (vi ((6 * (x3 + 1)) + v16)), some (vi ((h15 119 j17) + v19))] (am_up h18 119 j26 (h18 119 j25)))
  else rM_layLow d n 27 [some (vr 7 82), some (vi x1), some (vi x2), some (vi x3), some (vi (x4 + 1)), some (vi x5), u6, u7, u8] h := qM_layLow_36 (am_g d) n x1 x2 x3 x4 x5 u6 u7 u8 h
def rM_early (d n i : Nat) (ls : am_L) (h : am_H) : am_Z := am_run 0 (fun _ => 0) cM_early (am_g d) n i ls h
theorem gM_early (d : Nat) (x1 : Int32) (x2 : Int32) (x3 : Int32) (x4 : Int32) (h : am_H) : am_g (d + 1) 144 [vr 7 82, vi x1, vi x2, vi x3, vi x4] h =
  am_r1 (am_g d 110 [vr 7 82, vi x1] h) fun h1 v2 =>
  if v2 = 0 then
    (some (h1, some (-1)))
  else am_r1 (am_g d 108 [vr 7 82, vi x2] h1) fun h3 v4 =>
  if v4 = 0 then
    (some (h3, some (-1)))
  else am_r1 (am_g d 95 [vl (Int32.toInt64 x3), vl (Int32.toInt64 0), vl (Int32.toInt64 8)] h3) fun h5 v6 =>
  if v6 = 0 then
    (some (h5, some (-1)))
  else am_r1 (am_g d 95 [vl (Int32.toInt64 x4), vl (Int32.toInt64 0), vl (Int32.toInt64 2)] h5) fun h7 v8 =>
  if v8 = 0 then
    (some (h7, some (-1)))
  else am_b 4 x1 fun j9 =>
  am_b 4 x1 fun j10 =>
  am_r0 (am_g d 143 [vr 7 82, vi (h7 108 j9), vi (h7 109 j10)] h7) fun h11 =>
  rM_early d 999999 39 [some (vr 7 82), some (vi x1), some (vi x2), some (vi x3), some (vi x4), some (vi (-4)), some (vi 1000000), some (vi 0)] h11 := (am_g_run (tb := cM_early) rfl rfl (Nat.le_of_ble_eq_true rfl) rfl).trans (qM_early_0 (am_g d) 999999 x1 x2 x3 x4 h)
theorem tM_early_39 (d n : Nat) (x1 : Int32) (x2 : Int32) (x3 : Int32) (x4 : Int32) (x5 : Int32) (x6 : Int32) (x7 : Int32) (h : am_H) : rM_early d (n + 1) 39 [some (vr 7 82), some (vi x1), some (vi x2), some (vi x3), some (vi x4), some (vi x5), some (vi x6), some (vi x7)] h =
  if x3 < x7 then
    (if x5 < 0 then
      (some (h, some (-4)))
    else if x4 < 2 then
      (if x4 = 0 then
        (some (h, some (x6 + 100000)))
      else some (h, some x5))
    else rM_early d n 97 [some (vr 7 82), some (vi x1), some (vi x2), some (vi x3), some (vi x4), some (vi x5), some (vi x6), some (vi 0)] h)
  else am_b 54 ((6 * x7) + x2) fun j1 =>
  if (h 119 j1) < x6 then
    (am_b 54 ((6 * x7) + x2) fun j2 =>
    if (h 119 j2) < x6 then
      (am_b 54 ((6 * x7) + x2) fun j3 =>
      rM_early d n 39 [some (vr 7 82), some (vi x1), some (vi x2), some (vi x3), some (vi x4), some (vi x7), some (vi (h 119 j3)), some (vi (x7 + 1))] h)
    else rM_early d n 39 [some (vr 7 82), some (vi x1), some (vi x2), some (vi x3), some (vi x4), some (vi x7), some (vi x6), some (vi (x7 + 1))] h)
  else am_b 54 ((6 * x7) + x2) fun j4 =>
  if (h 119 j4) < x6 then
    (am_b 54 ((6 * x7) + x2) fun j5 =>
    rM_early d n 39 [some (vr 7 82), some (vi x1), some (vi x2), some (vi x3), some (vi x4), some (vi x5), some (vi (h 119 j5)), some (vi (x7 + 1))] h)
  else rM_early d n 39 [some (vr 7 82), some (vi x1), some (vi x2), some (vi x3), some (vi x4), some (vi x5), some (vi x6), some (vi (x7 + 1))] h := qM_early_39 (am_g d) n x1 x2 x3 x4 x5 x6 x7 h
theorem tM_early_97 (d n : Nat) (x1 : Int32) (x2 : Int32) (x3 : Int32) (x4 : Int32) (x5 : Int32) (x6 : Int32) (x7 : Int32) (h : am_H) : rM_early d (n + 1) 97 [some (vr 7 82), some (vi x1), some (vi x2), some (vi x3), some (vi x4), some (vi x5), some (vi x6), some (vi x7)] h =
  if x7 < (h 88 0) then
    (if 0 < x5 then
      (am_b 4 x1 fun j1 =>
      am_r1 (am_g d 115 [vr 7 82, vi x7, vi (h 108 j1)] h) fun h2 v3 =>
      if v3 = 0 then
        (rM_early d n 97 [some (vr 7 82), some (vi x1), some (vi x2), some (vi x3), some (vi x4), some (vi x5), some (vi x6), some (vi (x7 + 1))] h2)
      else am_b 4 x1 fun j4 =>
      am_r1 (am_g d 117 [vr 7 82, vi x7, vi (h2 108 j4)] h2) fun h5 v6 =>
      am_b 4 x1 fun j7 =>
      am_b 4 x1 fun j8 =>
      am_r1 (am_g d 142 [vr 7 82, vi x7, vi (h5 108 j8)] h5) fun h9 v10 =>
      am_r0 (am_g d 143 [vr 7 82, vi v6, vi ((h5 109 j7) + v10)] h9) fun h11 =>
      am_b 54 ((6 * (x5 - 1)) + x2) fun j12 =>
      if (h11 119 j12) = x6 then
        (some (h11, some x7))
      else rM_early d n 97 [some (vr 7 82), some (vi x1), some (vi x2), some (vi x3), some (vi x4), some (vi x5), some (vi x6), some (vi (x7 + 1))] h11)
    else some (h, some (-4)))
  else some (h, some (-4)) := qM_early_97 (am_g d) n x1 x2 x3 x4 x5 x6 x7 h
def rM_ring (d n i : Nat) (ls : am_L) (h : am_H) : am_Z := am_run 0 (fun _ => 0) cM_ring (am_g d) n i ls h
theorem gM_ring (d : Nat) (x1 : Int32) (h : am_H) : am_g (d + 1) 145 [vr 7 82, vi x1] h =
  am_r1 (am_g d 95 [vl (Int32.toInt64 x1), vl (Int32.toInt64 0), vl (Int32.toInt64 2)] h) fun h1 v2 =>
  if v2 = 0 then
    (some (h1, some (-1)))
  else rM_ring d 999999 17 [some (vr 7 82), some (vi x1), some (vi (-4)), some (vi (-4)), some (vi 0), some (vi 0), none] h1 := (am_g_run (tb := cM_ring) rfl rfl (Nat.le_of_ble_eq_true rfl) rfl).trans (qM_ring_0 (am_g d) 999999 x1 h)
theorem tM_ring_17 (d n : Nat) (x1 : Int32) (x2 : Int32) (x3 : Int32) (x4 : Int32) (x5 : Int32) (u6 : Option am_V) (h : am_H) : rM_ring d (n + 1) 17 [some (vr 7 82), some (vi x1), some (vi x2), some (vi x3), some (vi x4), some (vi x5), u6] h =
  if x5 < (h 84 0) then
    (am_r0 (am_g d 143 [vr 7 82, vi x5, vi 0] h) fun h1 =>
    rM_ring d n 30 [some (vr 7 82), some (vi x1), some (vi x2), some (vi x3), some (vi x4), some (vi x5), some (vi 8)] h1)
  else if x2 < 0 then
    (some (h, some (-4)))
  else if x1 = 0 then
    (some (h, some x2))
  else if x1 = 1 then
    (some (h, some x3))
  else some (h, some x4) := qM_ring_17 (am_g d) n x1 x2 x3 x4 x5 u6 h
theorem tM_ring_30 (d n : Nat) (x1 : Int32) (x2 : Int32) (x3 : Int32) (x4 : Int32) (x5 : Int32) (x6 : Int32) (h : am_H) : rM_ring d (n + 1) 30 [some (vr 7 82), some (vi x1), some (vi x2), some (vi x3), some (vi x4), some (vi x5), some (vi x6)] h =
  if x6 < 2 then
    (rM_ring d n 17 [some (vr 7 82), some (vi x1), some (vi x2), some (vi x3), some (vi x4), some (vi (x5 + 1)), some (vi x6)] h)
  else am_b 54 ((6 * x6) + x5) fun j1 =>
  if (h 119 j1) < 0 then
    (if x2 < 0 then
      (am_b 54 ((6 * x6) + x5) fun j2 =>
      rM_ring d n 30 [some (vr 7 82), some (vi x1), some (vi x6), some (vi x5), some (vi (-(h 119 j2))), some (vi x5), some (vi (x6 + (-1)))] h)
    else if x6 < x2 then
      (am_b 54 ((6 * x6) + x5) fun j3 =>
      rM_ring d n 30 [some (vr 7 82), some (vi x1), some (vi x6), some (vi x5), some (vi (-(h 119 j3))), some (vi x5), some (vi (x6 + (-1)))] h)
    else if x6 = x2 then
      (if x3 = x5 then
        (am_b 54 ((6 * x6) + x5) fun j4 =>
        rM_ring d n 30 [some (vr 7 82), some (vi x1), some (vi x6), some (vi x5), some (vi (-(h 119 j4))), some (vi x5), some (vi (x6 + (-1)))] h)
      else rM_ring d n 30 [some (vr 7 82), some (vi x1), some (vi x2), some (vi x3), some (vi x4), some (vi x5), some (vi (x6 + (-1)))] h)
    else rM_ring d n 30 [some (vr 7 82), some (vi x1), some (vi x2), some (vi x3), some (vi x4), some (vi x5), some (vi (x6 + (-1)))] h)
  else rM_ring d n 30 [some (vr 7 82), some (vi x1), some (vi x2), some (vi x3), some (vi x4), some (vi x5), some (vi (x6 + (-1)))] h := qM_ring_30 (am_g d) n x1 x2 x3 x4 x5 x6 h
def rM_even (d n i : Nat) (ls : am_L) (h : am_H) : am_Z := am_run 0 (fun _ => 0) cM_even (am_g d) n i ls h
theorem gM_even (d : Nat)  (h : am_H) : am_g (d + 1) 146 [vr 7 82] h =
  rM_even d 999999 3 [some (vr 7 82), some (vi 0), none, none, none, none, none] h := (am_g_run (tb := cM_even) rfl rfl (Nat.le_of_ble_eq_true rfl) rfl).trans (qM_even_0 (am_g d) 999999  h)
theorem tM_even_3 (d n : Nat) (x1 : Int32) (u2 : Option am_V) (u3 : Option am_V) (u4 : Option am_V) (u5 : Option am_V) (u6 : Option am_V) (h : am_H) : rM_even d (n + 1) 3 [some (vr 7 82), some (vi x1), u2, u3, u4, u5, u6] h =
  if x1 < 6 then
    (am_b 6 x1 fun j1 =>
    rM_even d n 3 [some (vr 7 82), some (vi (x1 + 1)), u2, u3, u4, u5, u6] (am_up h 120 j1 1000000))
  else rM_even d n 18 [some (vr 7 82), some (vi 1), some (vi 0), u3, u4, u5, u6] h := qM_even_3 (am_g d) n x1 u2 u3 u4 u5 u6 h
theorem tM_even_18 (d n : Nat) (x1 : Int32) (x2 : Int32) (u3 : Option am_V) (u4 : Option am_V) (u5 : Option am_V) (u6 : Option am_V) (h : am_H) : rM_even d (n + 1) 18 [some (vr 7 82), some (vi x1), some (vi x2), u3, u4, u5, u6] h =
  if x2 < (h 84 0) then
    (am_b 6 x2 fun j1 =>
    if (h 120 j1) = 1000000 then
      (am_b 6 x2 fun j2 =>
      rM_even d n 38 [some (vr 7 82), some (vi x1), some (vi x2), some (vi 0), u4, u5, u6] (am_up h 120 j2 0))
    else rM_even d n 18 [some (vr 7 82), some (vi x1), some (vi (x2 + 1)), u3, u4, u5, u6] h)
  else rM_even d n 129 [some (vr 7 82), some (vi x1), some (vi 0), u3, u4, u5, u6] h := qM_even_18 (am_g d) n x1 x2 u3 u4 u5 u6 h
theorem tM_even_38 (d n : Nat) (x1 : Int32) (x2 : Int32) (x3 : Int32) (u4 : Option am_V) (u5 : Option am_V) (u6 : Option am_V) (h : am_H) : rM_even d (n + 1) 38 [some (vr 7 82), some (vi x1), some (vi x2), some (vi x3), u4, u5, u6] h =
  if x3 < 6 then
    (rM_even d n 44 [some (vr 7 82), some (vi x1), some (vi x2), some (vi x3), some (vi 0), u5, u6] h)
  else rM_even d n 18 [some (vr 7 82), some (vi x1), some (vi (x2 + 1)), some (vi x3), u4, u5, u6] h := qM_even_38 (am_g d) n x1 x2 x3 u4 u5 u6 h
theorem tM_even_44 (d n : Nat) (x1 : Int32) (x2 : Int32) (x3 : Int32) (x4 : Int32) (u5 : Option am_V) (u6 : Option am_V) (h : am_H) : rM_even d (n + 1) 44 [some (vr 7 82), some (vi x1), some (vi x2), some (vi x3), some (vi x4), u5, u6] h =
  if x4 < (h 88 0) then
    (am_b 16 x4 fun j1 =>
    am_b 16 x4 fun j2 =>
    am_b 6 (h 89 j1) fun j3 =>
    if (h 120 j3) < 1000000 then
      (am_b 6 (h 90 j2) fun j4 =>
      if (h 120 j4) = 1000000 then
        (am_b 6 (h 89 j1) fun j5 =>
        am_b 16 x4 fun j6 =>
        am_b 6 (h 90 j2) fun j7 =>
        am_b 6 (h 90 j2) fun j8 =>
        if ((am_up h 120 j7 ((h 120 j5) + (h 91 j6))) 120 j8) < 1000000 then
          (am_b 6 (h 89 j1) fun j9 =>
          if ((am_up h 120 j7 ((h 120 j5) + (h 91 j6))) 120 j9) = 1000000 then
            (am_b 6 (h 90 j2) fun j10 =>
            am_b 16 x4 fun j11 =>
            am_b 6 (h 89 j1) fun j12 =>
            rM_even d n 44 [some (vr 7 82), some (vi x1), some (vi x2), some (vi x3), some (vi (x4 + 1)), some (vi (h 89 j1)), some (vi (h 90 j2))] (am_up (am_up h 120 j7 ((h 120 j5) + (h 91 j6))) 120 j12 (((am_up h 120 j7 ((h 120 j5) + (h 91 j6))) 120 j10) - (h 91 j11))))
          else am_b 6 (h 89 j1) fun j13 =>
          am_b 6 (h 89 j1) fun j14 =>
          rM_even d n 44 [some (vr 7 82), some (vi x1), some (vi x2), some (vi x3), some (vi (x4 + 1)), some (vi (h 89 j1)), some (vi (h 90 j2))] (am_up (am_up h 120 j7 ((h 120 j5) + (h 91 j6))) 120 j14 ((am_up h 120 j7 ((h 120 j5) + (h 91 j6))) 120 j13)))
        else am_b 6 (h 89 j1) fun j15 =>
        am_b 6 (h 89 j1) fun j16 =>
        rM_even d n 44 [some (vr 7 82), some (vi x1), some (vi x2), some (vi x3), some (vi (x4 + 1)), some (vi (h 89 j1)), some (vi (h 90 j2))] (am_up (am_up h 120 j7 ((h 120 j5) + (h 91 j6))) 120 j16 ((am_up h 120 j7 ((h 120 j5) + (h 91 j6))) 120 j15)))
      else am_b 6 (h 90 j2) fun j17 =>
      am_b 6 (h 90 j2) fun j18 =>
      am_b 6 (h 90 j2) fun j19 =>
      if ((am_up h 120 j18 (h 120 j17)) 120 j19) < 1000000 then
        (am_b 6 (h 89 j1) fun j20 =>
        if ((am_up h 120 j18 (h 120 j17)) 120 j20) = 1000000 then
          (am_b 6 (h 90 j2) fun j21 =>
          am_b 16 x4 fun j22 =>
          am_b 6 (h 89 j1) fun j23 =>
          rM_even d n 44 [some (vr 7 82), some (vi x1), some (vi x2), some (vi x3), some (vi (x4 + 1)), some (vi (h 89 j1)), some (vi (h 90 j2))] (am_up (am_up h 120 j18 (h 120 j17)) 120 j23 (((am_up h 120 j18 (h 120 j17)) 120 j21) - (h 91 j22))))
        else am_b 6 (h 89 j1) fun j24 =>
        am_b 6 (h 89 j1) fun j25 =>
        rM_even d n 44 [some (vr 7 82), some (vi x1), some (vi x2), some (vi x3), some (vi (x4 + 1)), some (vi (h 89 j1)), some (vi (h 90 j2))] (am_up (am_up h 120 j18 (h 120 j17)) 120 j25 ((am_up h 120 j18 (h 120 j17)) 120 j24)))
      else am_b 6 (h 89 j1) fun j26 =>
      am_b 6 (h 89 j1) fun j27 =>
      rM_even d n 44 [some (vr 7 82), some (vi x1), some (vi x2), some (vi x3), some (vi (x4 + 1)), some (vi (h 89 j1)), some (vi (h 90 j2))] (am_up (am_up h 120 j18 (h 120 j17)) 120 j27 ((am_up h 120 j18 (h 120 j17)) 120 j26)))
    else am_b 6 (h 90 j2) fun j28 =>
    am_b 6 (h 90 j2) fun j29 =>
    am_b 6 (h 90 j2) fun j30 =>
    if ((am_up h 120 j29 (h 120 j28)) 120 j30) < 1000000 then
      (am_b 6 (h 89 j1) fun j31 =>
      if ((am_up h 120 j29 (h 120 j28)) 120 j31) = 1000000 then
        (am_b 6 (h 90 j2) fun j32 =>
        am_b 16 x4 fun j33 =>
        am_b 6 (h 89 j1) fun j34 =>
        rM_even d n 44 [some (vr 7 82), some (vi x1), some (vi x2), some (vi x3), some (vi (x4 + 1)), some (vi (h 89 j1)), some (vi (h 90 j2))] (am_up (am_up h 120 j29 (h 120 j28)) 120 j34 (((am_up h 120 j29 (h 120 j28)) 120 j32) - (h 91 j33))))
      else am_b 6 (h 89 j1) fun j35 =>
      am_b 6 (h 89 j1) fun j36 =>
      rM_even d n 44 [some (vr 7 82), some (vi x1), some (vi x2), some (vi x3), some (vi (x4 + 1)), some (vi (h 89 j1)), some (vi (h 90 j2))] (am_up (am_up h 120 j29 (h 120 j28)) 120 j36 ((am_up h 120 j29 (h 120 j28)) 120 j35)))
    else am_b 6 (h 89 j1) fun j37 =>
    am_b 6 (h 89 j1) fun j38 =>
    rM_even d n 44 [some (vr 7 82), some (vi x1), some (vi x2), some (vi x3), some (vi (x4 + 1)), some (vi (h 89 j1)), some (vi (h 90 j2))] (am_up (am_up h 120 j29 (h 120 j28)) 120 j38 ((am_up h 120 j29 (h 120 j28)) 120 j37)))
  else rM_even d n 38 [some (vr 7 82), some (vi x1), some (vi x2), some (vi (x3 + 1)), some (vi x4), u5, u6] h := qM_even_44 (am_g d) n x1 x2 x3 x4 u5 u6 h
theorem tM_even_129 (d n : Nat) (x1 : Int32) (x2 : Int32) (u3 : Option am_V) (u4 : Option am_V) (u5 : Option am_V) (u6 : Option am_V) (h : am_H) : rM_even d (n + 1) 129 [some (vr 7 82), some (vi x1), some (vi x2), u3, u4, u5, u6] h =
  if x2 < (h 88 0) then
    (if x1 = 0 then
      (rM_even d n 129 [some (vr 7 82), some (vi 0), some (vi (x2 + 1)), u3, u4, u5, u6] h)
    else am_b 16 x2 fun j1 =>
    am_b 6 (h 90 j1) fun j2 =>
    am_b 16 x2 fun j3 =>
    am_b 6 (h 89 j3) fun j4 =>
    am_b 16 x2 fun j5 =>
    if ((h 120 j2) - (h 120 j4)) = (h 91 j5) then
      (rM_even d n 129 [some (vr 7 82), some (vi 1), some (vi (x2 + 1)), u3, u4, u5, u6] h)
    else rM_even d n 129 [some (vr 7 82), some (vi 0), some (vi (x2 + 1)), u3, u4, u5, u6] h)
  else if x1 = 0 then
    (some (h, some 0))
  else some (h, some 1) := qM_even_129 (am_g d) n x1 x2 u3 u4 u5 u6 h
def rM_layStays (d n i : Nat) (ls : am_L) (h : am_H) : am_Z := am_run 0 (fun _ => 0) cM_layStays (am_g d) n i ls h
theorem gM_layStays (d : Nat) (x1 : Int32) (h : am_H) : am_g (d + 1) 147 [vr 7 82, vi x1] h =
  rM_layStays d 999999 3 [some (vr 7 82), some (vi x1), some (vi 0), none, none, none, none] h := (am_g_run (tb := cM_layStays) rfl rfl (Nat.le_of_ble_eq_true rfl) rfl).trans (qM_layStays_0 (am_g d) 999999 x1 h)
theorem tM_layStays_3 (d n : Nat) (x1 : Int32) (x2 : Int32) (u3 : Option am_V) (u4 : Option am_V) (u5 : Option am_V) (u6 : Option am_V) (h : am_H) : rM_layStays d (n + 1) 3 [some (vr 7 82), some (vi x1), some (vi x2), u3, u4, u5, u6] h =
  if x2 < 64 then
    (rM_layStays d n 9 [some (vr 7 82), some (vi x1), some (vi x2), some (vi 0), u4, u5, u6] h)
  else some (h, none) := qM_layStays_3 (am_g d) n x1 x2 u3 u4 u5 u6 h
theorem tM_layStays_9 (d n : Nat) (x1 : Int32) (x2 : Int32) (x3 : Int32) (u4 : Option am_V) (u5 : Option am_V) (u6 : Option am_V) (h : am_H) : rM_layStays d (n + 1) 9 [some (vr 7 82), some (vi x1), some (vi x2), some (vi x3), u4, u5, u6] h =
  if x3 < (h 84 0) then
    (am_r1 (am_g d 96 [vi x1, vi x3] h) fun h1 v2 =>
    if v2 = 0 then
      (am_b 384 ((6 * x2) + x3) fun j3 =>
      am_r1 (am_g d 112 [vr 7 82, vi x3] h1) fun h4 v5 =>
      rM_layStays d n 9 [some (vr 7 82), some (vi x1), some (vi x2), some (vi (x3 + 1)), some (vi 0), some (vi ((6 * (x2 ||| ((1 : Int32) <<< (x3 &&& 31)))) + x3)), some (vi ((h1 121 j3) + v5))] h4)
    else am_r1 (am_g d 96 [vi x2, vi x3] h1) fun h6 v7 =>
    if v7 = 0 then
      (am_b 384 ((6 * x2) + x3) fun j8 =>
      if (h6 121 j8) < 1000000 then
        (am_b 384 ((6 * x2) + x3) fun j9 =>
        am_r1 (am_g d 112 [vr 7 82, vi x3] h6) fun h10 v11 =>
        am_b 384 ((6 * (x2 ||| ((1 : Int32) <<< (x3 &&& 31)))) + x3) fun j12 =>
        if ((h6 121 j9) + v11) < (h10 121 j12) then
          (am_b 384 ((6 * (x2 ||| ((1 : Int32) <<< (x3 &&& 31)))) + x3) fun j13 =>
          rM_layStays d n 9 [some (vr 7 82), some (vi x1), some (vi x2), some (vi (x3 + 1)), some (vi 1), some (vi ((6 * (x2 ||| ((1 : Int32) <<< (x3 &&& 31)))) + x3)), some (vi ((h6 121 j9) + v11))] (am_up h10 121 j13 ((h6 121 j9) + v11)))
        else rM_layStays d n 9 [some (vr 7 82), some (vi x1), some (vi x2), some (vi (x3 + 1)), some (vi 1), some (vi ((6 * (x2 ||| ((1 : Int32) <<< (x3 &&& 31)))) + x3)), some (vi ((h6 121 j9) + v11))] h10)
      else am_b 384 ((6 * x2) + x3) fun j14 =>
      am_r1 (am_g d 112 [vr 7 82, vi x3] h6) fun h15 v16 =>
      rM_layStays d n 9 [some (vr 7 82), some (vi x1), some (vi x2), some (vi (x3 + 1)), some (vi 0), some (vi ((6 * (x2 ||| ((1 : Int32) <<< (x3 &&& 31)))) + x3)), some (vi ((h6 121 j14) + v16))] h15)
    else am_b 384 ((6 * x2) + x3) fun j17 =>
    am_r1 (am_g d 112 [vr 7 82, vi x3] h6) fun h18 v19 =>
    rM_layStays d n 9 [some (vr 7 82), some (vi x1), some (vi x2), some (vi (x3 + 1)), some (vi 0), some (vi ((6 * (x2 ||| ((1 : Int32) <<< (x3 &&& 31)))) + x3)), some (vi ((h6 121 j17) + v19))] h18)
  else rM_layStays d n 3 [some (vr 7 82), some (vi x1), some (vi (x2 + 1)), some (vi x3), u4, u5, u6] h := qM_layStays_9 (am_g d) n x1 x2 x3 u4 u5 u6 h
def rM_round (d n i : Nat) (ls : am_L) (h : am_H) : am_Z := am_run 0 (fun _ => 0) cM_round (am_g d) n i ls h
theorem gM_round (d : Nat) (x1 : Int32) (x2 : Int32) (x3 : Int32) (h : am_H) : am_g (d + 1) 148 [vr 7 82, vi x1, vi x2, vi x3] h =
  am_r1 (am_g d 110 [vr 7 82, vi x1] h) fun h1 v2 =>
  if v2 = 0 then
    (some (h1, some (-1)))
  else am_r1 (am_g d 95 [vl (Int32.toInt64 x2), vl (Int32.toInt64 0), vl (Int32.toInt64 (((1 : Int32) <<< ((h1 84 0) &&& 31)) - 1))] h1) fun h3 v4 =>
  if v4 = 0 then
    (some (h3, some (-1)))
  else am_r1 (am_g d 95 [vl (Int32.toInt64 x3), vl (Int32.toInt64 0), vl (Int32.toInt64 1)] h3) fun h5 v6 =>
  if v6 = 0 then
    (some (h5, some (-1)))
  else rM_round d 999999 29 [some (vr 7 82), some (vi x1), some (vi x2), some (vi x3), some (vi 0), none, none, none, none, none, none, none] h5 := (am_g_run (tb := cM_round) rfl rfl (Nat.le_of_ble_eq_true rfl) rfl).trans (qM_round_0 (am_g d) 999999 x1 x2 x3 h)
theorem tM_round_29 (d n : Nat) (x1 : Int32) (x2 : Int32) (x3 : Int32) (x4 : Int32) (u5 : Option am_V) (u6 : Option am_V) (u7 : Option am_V) (u8 : Option am_V) (u9 : Option am_V) (u10 : Option am_V) (u11 : Option am_V) (h : am_H) : rM_round d (n + 1) 29 [some (vr 7 82), some (vi x1), some (vi x2), some (vi x3), some (vi x4), u5, u6, u7, u8, u9, u10, u11] h =
  if x4 < 384 then
    (am_b 384 x4 fun j1 =>
    rM_round d n 29 [some (vr 7 82), some (vi x1), some (vi x2), some (vi x3), some (vi (x4 + 1)), u5, u6, u7, u8, u9, u10, u11] (am_up h 121 j1 1000000))
  else am_b 4 x1 fun j2 =>
  am_b 4 x1 fun j3 =>
  am_b 384 (h 108 j2) fun j4 =>
  rM_round d n 57 [some (vr 7 82), some (vi x1), some (vi x2), some (vi x3), some (vi 1000000), some (vi (-4)), some (vi 0), u7, u8, u9, u10, u11] (am_up h 121 j4 (h 109 j3)) := qM_round_29 (am_g d) n x1 x2 x3 x4 u5 u6 u7 u8 u9 u10 u11 h
theorem tM_round_57 (d n : Nat) (x1 : Int32) (x2 : Int32) (x3 : Int32) (x4 : Int32) (x5 : Int32) (x6 : Int32) (u7 : Option am_V) (u8 : Option am_V) (u9 : Option am_V) (u10 : Option am_V) (u11 : Option am_V) (h : am_H) : rM_round d (n + 1) 57 [some (vr 7 82), some (vi x1), some (vi x2), some (vi x3), some (vi x4), some (vi x5), some (vi x6), u7, u8, u9, u10, u11] h =
  if 10 < x6 then
    (if x5 < 0 then
      (some (h, some (-4)))
    else if x3 = 0 then
      (some (h, some (x4 + 100000)))
    else some (h, some x5))
  else am_r0 (am_g d 147 [vr 7 82, vi x2] h) fun h1 =>
  rM_round d n 66 [some (vr 7 82), some (vi x1), some (vi x2), some (vi x3), some (vi x4), some (vi x5), some (vi x6), some (vi 0), u8, u9, u10, u11] h1 := qM_round_57 (am_g d) n x1 x2 x3 x4 x5 x6 u7 u8 u9 u10 u11 h
theorem tM_round_66 (d n : Nat) (x1 : Int32) (x2 : Int32) (x3 : Int32) (x4 : Int32) (x5 : Int32) (x6 : Int32) (x7 : Int32) (u8 : Option am_V) (u9 : Option am_V) (u10 : Option am_V) (u11 : Option am_V) (h : am_H) : rM_round d (n + 1) 66 [some (vr 7 82), some (vi x1), some (vi x2), some (vi x3), some (vi x4), some (vi x5), some (vi x6), some (vi x7), u8, u9, u10, u11] h =
  if x7 < (h 84 0) then
    (am_b 384 ((6 * x2) + x7) fun j1 =>
    if (h 121 j1) < x4 then
      (if (h 121 j1) < 1000000 then
        (if x5 < 0 then
          (rM_round d n 66 [some (vr 7 82), some (vi x1), some (vi x2), some (vi x3), some (vi (h 121 j1)), some (vi x6), some (vi x6), some (vi (x7 + 1)), some (vi (h 121 j1)), u9, u10, u11] h)
        else rM_round d n 66 [some (vr 7 82), some (vi x1), some (vi x2), some (vi x3), some (vi (h 121 j1)), some (vi x5), some (vi x6), some (vi (x7 + 1)), some (vi (h 121 j1)), u9, u10, u11] h)
      else rM_round d n 66 [some (vr 7 82), some (vi x1), some (vi x2), some (vi x3), some (vi (h 121 j1)), some (vi x5), some (vi x6), some (vi (x7 + 1)), some (vi (h 121 j1)), u9, u10, u11] h)
    else if (h 121 j1) < 1000000 then
      (if x5 < 0 then
        (rM_round d n 66 [some (vr 7 82), some (vi x1), some (vi x2), some (vi x3), some (vi x4), some (vi x6), some (vi x6), some (vi (x7 + 1)), some (vi (h 121 j1)), u9, u10, u11] h)
      else rM_round d n 66 [some (vr 7 82), some (vi x1), some (vi x2), some (vi x3), some (vi x4), some (vi x5), some (vi x6), some (vi (x7 + 1)), some (vi (h 121 j1)), u9, u10, u11] h)
    else rM_round d n 66 [some (vr 7 82), some (vi x1), some (vi x2), some (vi x3), some (vi x4), some (vi x5), some (vi x6), some (vi (x7 + 1)), some (vi (h 121 j1)), u9, u10, u11] h)
  else rM_round d n 102 [some (vr 7 82), some (vi x1), some (vi x2), some (vi x3), some (vi x4), some (vi x5), some (vi x6), some (vi 0), u8, u9, u10, u11] h := qM_round_66 (am_g d) n x1 x2 x3 x4 x5 x6 x7 u8 u9 u10 u11 h
theorem tM_round_102 (d n : Nat) (x1 : Int32) (x2 : Int32) (x3 : Int32) (x4 : Int32) (x5 : Int32) (x6 : Int32) (x7 : Int32) (u8 : Option am_V) (u9 : Option am_V) (u10 : Option am_V) (u11 : Option am_V) (h : am_H) : rM_round d (n + 1) 102 [some (vr 7 82), some (vi x1), some (vi x2), some (vi x3), some (vi x4), some (vi x5), some (vi x6), some (vi x7), u8, u9, u10, u11] h =
  if x7 < 384 then
    (am_b 384 x7 fun j1 =>
    rM_round d n 102 [some (vr 7 82), some (vi x1), some (vi x2), some (vi x3), some (vi x4), some (vi x5), some (vi x6), some (vi (x7 + 1)), u8, u9, u10, u11] (am_up h 122 j1 1000000))
  else rM_round d n 115 [some (vr 7 82), some (vi x1), some (vi x2), some (vi x3), some (vi x4), some (vi x5), some (vi x6), some (vi 0), u8, u9, u10, u11] h := qM_round_102 (am_g d) n x1 x2 x3 x4 x5 x6 x7 u8 u9 u10 u11 h
theorem tM_round_115 (d n : Nat) (x1 : Int32) (x2 : Int32) (x3 : Int32) (x4 : Int32) (x5 : Int32) (x6 : Int32) (x7 : Int32) (u8 : Option am_V) (u9 : Option am_V) (u10 : Option am_V) (u11 : Option am_V) (h : am_H) : rM_round d (n + 1) 115 [some (vr 7 82), some (vi x1), some (vi x2), some (vi x3), some (vi x4), some (vi x5), some (vi x6), some (vi x7), u8, u9, u10, u11] h =
  if x7 < (h 88 0) then
    (rM_round d n 124 [some (vr 7 82), some (vi x1), some (vi x2), some (vi x3), some (vi x4), some (vi x5), some (vi x6), some (vi x7), some (vi 0), u9, u10, u11] h)
  else rM_round d n 189 [some (vr 7 82), some (vi x1), some (vi x2), some (vi x3), some (vi x4), some (vi x5), some (vi x6), some (vi 0), u8, u9, u10, u11] h := qM_round_115 (am_g d) n x1 x2 x3 x4 x5 x6 x7 u8 u9 u10 u11 h
theorem tM_round_124 (d n : Nat) (x1 : Int32) (x2 : Int32) (x3 : Int32) (x4 : Int32) (x5 : Int32) (x6 : Int32) (x7 : Int32) (x8 : Int32) (u9 : Option am_V) (u10 : Option am_V) (u11 : Option am_V) (h : am_H) : rM_round d (n + 1) 124 [some (vr 7 82), some (vi x1), some (vi x2), some (vi x3), some (vi x4), some (vi x5), some (vi x6), some (vi x7), some (vi x8), u9, u10, u11] h =
  if x8 < 384 then
    (am_b 384 x8 fun j1 =>
    if (h 121 j1) < 1000000 then
      (if (x8 / 6) = x2 then
        (rM_round d n 124 [some (vr 7 82), some (vi x1), some (vi x2), some (vi x3), some (vi x4), some (vi x5), some (vi x6), some (vi x7), some (vi (x8 + 1)), some (vi (am_rem x8 6)), u10, u11] h)
      else am_r1 (am_g d 115 [vr 7 82, vi x7, vi (am_rem x8 6)] h) fun h2 v3 =>
      if v3 = 0 then
        (rM_round d n 124 [some (vr 7 82), some (vi x1), some (vi x2), some (vi x3), some (vi x4), some (vi x5), some (vi x6), some (vi x7), some (vi (x8 + 1)), some (vi (am_rem x8 6)), u10, u11] h2)
      else am_r1 (am_g d 117 [vr 7 82, vi x7, vi (am_rem x8 6)] h2) fun h4 v5 =>
      am_b 384 x8 fun j6 =>
      am_r1 (am_g d 142 [vr 7 82, vi x7, vi (am_rem x8 6)] h4) fun h7 v8 =>
      am_b 384 ((x8 - (am_rem x8 6)) + v5) fun j9 =>
      if ((h4 121 j6) + v8) < (h7 122 j9) then
        (am_b 384 ((x8 - (am_rem x8 6)) + v5) fun j10 =>
        rM_round d n 124 [some (vr 7 82), some (vi x1), some (vi x2), some (vi x3), some (vi x4), some (vi x5), some (vi x6), some (vi x7), some (vi (x8 + 1)), some (vi (am_rem x8 6)), some (vi ((x8 - (am_rem x8 6)) + v5)), some (vi ((h4 121 j6) + v8))] (am_up h7 122 j10 ((h4 121 j6) + v8)))
      else am_b 384 ((x8 - (am_rem x8 6)) + v5) fun j11 =>
      am_b 384 ((x8 - (am_rem x8 6)) + v5) fun j12 =>
      rM_round d n 124 [some (vr 7 82), some (vi x1), some (vi x2), some (vi x3), some (vi x4), some (vi x5), some (vi x6), some (vi x7), some (vi (x8 + 1)), some (vi (am_rem x8 6)), some (vi ((x8 - (am_rem x8 6)) + v5)), some (vi ((h4 121 j6) + v8))] (am_up h7 122 j12 (h7 122 j11)))
    else rM_round d n 124 [some (vr 7 82), some (vi x1), some (vi x2), some (vi x3), some (vi x4), some (vi x5), some (vi x6), some (vi x7), some (vi (x8 + 1)), some (vi (am_rem x8 6)), u10, u11] h)
  else rM_round d n 115 [some (vr 7 82), some (vi x1), some (vi x2), some (vi x3), some (vi x4), some (vi x5), some (vi x6), some (vi (x7 + 1)), some (vi x8), u9, u10, u11] h := qM_round_124 (am_g d) n x1 x2 x3 x4 x5 x6 x7 x8 u9 u10 u11 h
theorem tM_round_189 (d n : Nat) (x1 : Int32) (x2 : Int32) (x3 : Int32) (x4 : Int32) (x5 : Int32) (x6 : Int32) (x7 : Int32) (u8 : Option am_V) (u9 : Option am_V) (u10 : Option am_V) (u11 : Option am_V) (h : am_H) : rM_round d (n + 1) 189 [some (vr 7 82), some (vi x1), some (vi x2), some (vi x3), some (vi x4), some (vi x5), some (vi x6), some (vi x7), u8, u9, u10, u11] h =
  if x7 < 384 then
    (am_b 384 x7 fun j1 =>
    am_b 384 x7 fun j2 =>
    rM_round d n 189 [some (vr 7 82), some (vi x1), some (vi x2), some (vi x3), some (vi x4), some (vi x5), some (vi x6), some (vi (x7 + 1)), u8, u9, u10, u11] (am_up h 121 j2 (h 122 j1)))
  else rM_round d n 57 [some (vr 7 82), some (vi x1), some (vi x2), some (vi x3), some (vi x4), some (vi x5), some (vi (x6 + 1)), some (vi x7), u8, u9, u10, u11] h := qM_round_189 (am_g d) n x1 x2 x3 x4 x5 x6 x7 u8 u9 u10 u11 h
def rM_hour (d n i : Nat) (ls : am_L) (h : am_H) : am_Z := am_run 0 (fun _ => 0) cM_hour (am_g d) n i ls h
theorem gM_hour (d : Nat) (x1 : Int32) (x2 : Int32) (x3 : Int32) (h : am_H) : am_g (d + 1) 149 [vr 7 82, vi x1, vi x2, vi x3] h =
  am_r1 (am_g d 110 [vr 7 82, vi x1] h) fun h1 v2 =>
  if v2 = 0 then
    (some (h1, some (-1)))
  else am_r1 (am_g d 95 [vl (Int32.toInt64 x2), vl (Int32.toInt64 0), vl (Int32.toInt64 23)] h1) fun h3 v4 =>
  if v4 = 0 then
    (some (h3, some (-1)))
  else am_r1 (am_g d 95 [vl (Int32.toInt64 x3), vl (Int32.toInt64 0), vl (Int32.toInt64 2)] h3) fun h5 v6 =>
  if v6 = 0 then
    (some (h5, some (-1)))
  else if x3 = 0 then
    (if x3 = 0 then
      (am_b 4 x1 fun j7 =>
      am_b 4 x1 fun j8 =>
      am_r1 (am_g d 126 [vi ((12 * x2) - (h5 109 j8)), vi (24 * 12)] h5) fun h9 v10 =>
      some (h9, some (((h5 109 j7) + v10) + 100000)))
    else if x3 = 1 then
      (am_b 4 x1 fun j11 =>
      am_b 12 (h5 108 j11) fun j12 =>
      am_b 4 x1 fun j13 =>
      am_b 4 x1 fun j14 =>
      am_r1 (am_g d 126 [vi (((x2 - (h5 87 j12)) * 12) - (h5 109 j14)), vi (24 * 12)] h5) fun h15 v16 =>
      some (h15, some (((h5 109 j13) + v16) + 100000)))
    else am_b 4 x1 fun j17 =>
    am_b 4 x1 fun j18 =>
    am_r1 (am_g d 126 [vi (x2 - (h5 110 j18)), vi 24] h5) fun h19 v20 =>
    am_b 4 x1 fun j21 =>
    am_b 4 x1 fun j22 =>
    am_r1 (am_g d 126 [vi (((h5 109 j17) + (v20 * 12)) - (h19 109 j22)), vi (24 * 12)] h19) fun h23 v24 =>
    some (h23, some (((h19 109 j21) + v24) + 100000)))
  else am_b 4 x1 fun j25 =>
  am_r1 (am_g d 112 [vr 7 82, vi (h5 108 j25)] h5) fun h26 v27 =>
  if x3 = 0 then
    (am_b 4 x1 fun j28 =>
    am_b 4 x1 fun j29 =>
    am_r1 (am_g d 126 [vi ((12 * x2) - (h26 109 j29)), vi (24 * v27)] h26) fun h30 v31 =>
    some (h30, some (((h26 109 j28) + v31) + 100000)))
  else if x3 = 1 then
    (am_b 4 x1 fun j32 =>
    am_b 12 (h26 108 j32) fun j33 =>
    am_b 4 x1 fun j34 =>
    am_b 4 x1 fun j35 =>
    am_r1 (am_g d 126 [vi (((x2 - (h26 87 j33)) * v27) - (h26 109 j35)), vi (24 * v27)] h26) fun h36 v37 =>
    some (h36, some (((h26 109 j34) + v37) + 100000)))
  else am_b 4 x1 fun j38 =>
  am_b 4 x1 fun j39 =>
  am_r1 (am_g d 126 [vi (x2 - (h26 110 j39)), vi 24] h26) fun h40 v41 =>
  am_b 4 x1 fun j42 =>
  am_b 4 x1 fun j43 =>
  am_r1 (am_g d 126 [vi (((h26 109 j38) + (v41 * v27)) - (h40 109 j43)), vi (24 * v27)] h40) fun h44 v45 =>
  some (h44, some (((h40 109 j42) + v45) + 100000)) := (am_g_run (tb := cM_hour) rfl rfl (Nat.le_of_ble_eq_true rfl) rfl).trans (qM_hour_0 (am_g d) 999999 x1 x2 x3 h)
def rM_agreed (d n i : Nat) (ls : am_L) (h : am_H) : am_Z := am_run 0 (fun _ => 0) cM_agreed (am_g d) n i ls h
theorem gM_agreed (d : Nat) (x1 : Int32) (x2 : Int32) (x3 : Int32) (h : am_H) : am_g (d + 1) 150 [vr 7 82, vi x1, vi x2, vi x3] h =
  am_r1 (am_g d 110 [vr 7 82, vi x1] h) fun h1 v2 =>
  if v2 = 0 then
    (some (h1, some (-1)))
  else am_r1 (am_g d 110 [vr 7 82, vi x2] h1) fun h3 v4 =>
  if v4 = 0 then
    (some (h3, some (-1)))
  else if x1 = x2 then
    (some (h3, some (-1)))
  else am_r1 (am_g d 95 [vl (Int32.toInt64 x3), vl (Int32.toInt64 0), vl (Int32.toInt64 23)] h3) fun h5 v6 =>
  if v6 = 0 then
    (some (h5, some (-1)))
  else am_b 4 x1 fun j7 =>
  am_r1 (am_g d 112 [vr 7 82, vi (h5 108 j7)] h5) fun h8 v9 =>
  am_b 4 x2 fun j10 =>
  am_r1 (am_g d 112 [vr 7 82, vi (h8 108 j10)] h8) fun h11 v12 =>
  am_b 4 x1 fun j13 =>
  am_b 4 x1 fun j14 =>
  am_r1 (am_g d 126 [vi (x3 - (h11 110 j14)), vi 24] h11) fun h15 v16 =>
  am_b 4 x1 fun j17 =>
  am_r1 (am_g d 112 [vr 7 82, vi (h15 108 j17)] h15) fun h18 v19 =>
  am_b 4 x2 fun j20 =>
  am_b 4 x2 fun j21 =>
  am_r1 (am_g d 126 [vi (x3 - (h18 110 j21)), vi 24] h18) fun h22 v23 =>
  am_b 4 x2 fun j24 =>
  am_r1 (am_g d 112 [vr 7 82, vi (h22 108 j24)] h22) fun h25 v26 =>
  rM_agreed d 999999 82 [some (vr 7 82), some (vi x1), some (vi x2), some (vi x3), some (vi (24 * v9)), some (vi (24 * v12)), some (vi ((h11 109 j13) + (v16 * v19))), some (vi ((h18 109 j20) + (v23 * v26))), some (vi ((h11 109 j13) + (v16 * v19)))] h25 := (am_g_run (tb := cM_agreed) rfl rfl (Nat.le_of_ble_eq_true rfl) rfl).trans (qM_agreed_0 (am_g d) 999999 x1 x2 x3 h)
theorem tM_agreed_82 (d n : Nat) (x1 : Int32) (x2 : Int32) (x3 : Int32) (x4 : Int32) (x5 : Int32) (x6 : Int32) (x7 : Int32) (x8 : Int32) (h : am_H) : rM_agreed d (n + 1) 82 [some (vr 7 82), some (vi x1), some (vi x2), some (vi x3), some (vi x4), some (vi x5), some (vi x6), some (vi x7), some (vi x8)] h =
  if 9999 < x8 then
    (some (h, some (-4)))
  else if x8 < x7 then
    (rM_agreed d n 82 [some (vr 7 82), some (vi x1), some (vi x2), some (vi x3), some (vi x4), some (vi x5), some (vi x6), some (vi x7), some (vi (x8 + x4))] h)
  else if x5 = 0 then none else
  if (am_rem (x8 - x7) x5) = 0 then
    (some (h, some (x8 + 100000)))
  else rM_agreed d n 82 [some (vr 7 82), some (vi x1), some (vi x2), some (vi x3), some (vi x4), some (vi x5), some (vi x6), some (vi x7), some (vi (x8 + x4))] h := qM_agreed_82 (am_g d) n x1 x2 x3 x4 x5 x6 x7 x8 h
def rM_shelf (d n i : Nat) (ls : am_L) (h : am_H) : am_Z := am_run 0 (fun _ => 0) cM_shelf (am_g d) n i ls h
theorem gM_shelf (d : Nat) (x1 : Int32) (x2 : Int32) (h : am_H) : am_g (d + 1) 151 [vr 7 82, vi x1, vi x2] h =
  am_r1 (am_g d 111 [vr 7 82, vi x1] h) fun h1 v2 =>
  if v2 = 0 then
    (some (h1, some (-1)))
  else am_r1 (am_g d 95 [vl (Int32.toInt64 x2), vl (Int32.toInt64 1), vl (Int32.toInt64 99)] h1) fun h3 v4 =>
  if v4 = 0 then
    (some (h3, some (-1)))
  else rM_shelf d 999999 19 [some (vr 7 82), some (vi x1), some (vi x2), some (vi 0), some (vi (-4)), some (vi 0), none] h3 := (am_g_run (tb := cM_shelf) rfl rfl (Nat.le_of_ble_eq_true rfl) rfl).trans (qM_shelf_0 (am_g d) 999999 x1 x2 h)
theorem tM_shelf_19 (d n : Nat) (x1 : Int32) (x2 : Int32) (x3 : Int32) (x4 : Int32) (x5 : Int32) (u6 : Option am_V) (h : am_H) : rM_shelf d (n + 1) 19 [some (vr 7 82), some (vi x1), some (vi x2), some (vi x3), some (vi x4), some (vi x5), u6] h =
  if x5 < (h 84 0) then
    (am_b 5 x1 fun j1 =>
    am_r1 (am_g d 113 [vr 7 82, vi x5, vi (12 * x2)] h) fun h2 v3 =>
    am_r1 (am_g d 132 [vr 7 82, vi x1, vi ((h 114 j1) + v3)] h2) fun h4 v5 =>
    if x4 < v5 then
      (if x4 < v5 then
        (rM_shelf d n 19 [some (vr 7 82), some (vi x1), some (vi x2), some (vi x5), some (vi v5), some (vi (x5 + 1)), some (vi v5)] h4)
      else rM_shelf d n 19 [some (vr 7 82), some (vi x1), some (vi x2), some (vi x5), some (vi x4), some (vi (x5 + 1)), some (vi v5)] h4)
    else if x4 < v5 then
      (rM_shelf d n 19 [some (vr 7 82), some (vi x1), some (vi x2), some (vi x3), some (vi v5), some (vi (x5 + 1)), some (vi v5)] h4)
    else rM_shelf d n 19 [some (vr 7 82), some (vi x1), some (vi x2), some (vi x3), some (vi x4), some (vi (x5 + 1)), some (vi v5)] h4)
  else some (h, some x3) := qM_shelf_19 (am_g d) n x1 x2 x3 x4 x5 u6 h
def rM_seen (d n i : Nat) (ls : am_L) (h : am_H) : am_Z := am_run 0 (fun _ => 0) cM_seen (am_g d) n i ls h
theorem gM_seen (d : Nat) (x1 : Int32) (x2 : Int32) (x3 : Int32) (h : am_H) : am_g (d + 1) 152 [vr 7 82, vi x1, vi x2, vi x3] h =
  am_r1 (am_g d 108 [vr 7 82, vi x1] h) fun h1 v2 =>
  if v2 = 0 then
    (some (h1, some (-1)))
  else am_r1 (am_g d 95 [vl (Int32.toInt64 x2), vl (Int32.toInt64 1), vl (Int32.toInt64 99)] h1) fun h3 v4 =>
  if v4 = 0 then
    (some (h3, some (-1)))
  else am_r1 (am_g d 95 [vl (Int32.toInt64 x3), vl (Int32.toInt64 0), vl (Int32.toInt64 400)] h3) fun h5 v6 =>
  if v6 = 0 then
    (some (h5, some (-1)))
  else if (h5 82 23) = 8 then
    (some (h5, some (-3)))
  else am_b 8 (h5 82 23) fun j7 =>
  am_b 8 (h5 82 23) fun j8 =>
  am_b 8 (h5 82 23) fun j9 =>
  some (am_up (am_up (am_up (am_up h5 104 j7 x1) 105 j8 x2) 106 j9 x3) 82 23 ((h5 82 23) + 1), some ((h5 82 23) + 1)) := (am_g_run (tb := cM_seen) rfl rfl (Nat.le_of_ble_eq_true rfl) rfl).trans (qM_seen_0 (am_g d) 999999 x1 x2 x3 h)
def rM_forget (d n i : Nat) (ls : am_L) (h : am_H) : am_Z := am_run 0 (fun _ => 0) cM_forget (am_g d) n i ls h
theorem gM_forget (d : Nat)  (h : am_H) : am_g (d + 1) 153 [vr 7 82] h =
  some (am_up h 82 23 0, some (h 82 23)) := (am_g_run (tb := cM_forget) rfl rfl (Nat.le_of_ble_eq_true rfl) rfl).trans (qM_forget_0 (am_g d) 999999  h)
def rM_onBy (d n i : Nat) (ls : am_L) (h : am_H) : am_Z := am_run 0 (fun _ => 0) cM_onBy (am_g d) n i ls h
theorem gM_onBy (d : Nat) (x0 : Int32) (x1 : Int32) (h : am_H) : am_g (d + 1) 154 [vi x0, vi x1] h =
  if (am_rem x0 4) + 1 = 0 then none else
  some (h, some ((x1 * ((x0 / 4) + 1)) / ((am_rem x0 4) + 1))) := (am_g_run (tb := cM_onBy) rfl rfl (Nat.le_of_ble_eq_true rfl) rfl).trans (qM_onBy_0 (am_g d) 999999 x0 x1 h)
def rM_pacesOf (d n i : Nat) (ls : am_L) (h : am_H) : am_Z := am_run 0 (fun _ => 0) cM_pacesOf (am_g d) n i ls h
theorem gM_pacesOf (d : Nat) (x1 : Int32) (h : am_H) : am_g (d + 1) 155 [vr 7 82, vi x1] h =
  rM_pacesOf d 999999 5 [some (vr 7 82), some (vi x1), some (vi 0), some (vi 0), none, none] h := (am_g_run (tb := cM_pacesOf) rfl rfl (Nat.le_of_ble_eq_true rfl) rfl).trans (qM_pacesOf_0 (am_g d) 999999 x1 h)
theorem tM_pacesOf_5 (d n : Nat) (x1 : Int32) (x2 : Int32) (x3 : Int32) (u4 : Option am_V) (u5 : Option am_V) (h : am_H) : rM_pacesOf d (n + 1) 5 [some (vr 7 82), some (vi x1), some (vi x2), some (vi x3), u4, u5] h =
  if x3 < 16 then
    (rM_pacesOf d n 13 [some (vr 7 82), some (vi x1), some (vi x2), some (vi x3), some (vi 1), some (vi 0)] h)
  else some (h, some x2) := qM_pacesOf_5 (am_g d) n x1 x2 x3 u4 u5 h
theorem tM_pacesOf_13 (d n : Nat) (x1 : Int32) (x2 : Int32) (x3 : Int32) (x4 : Int32) (x5 : Int32) (h : am_H) : rM_pacesOf d (n + 1) 13 [some (vr 7 82), some (vi x1), some (vi x2), some (vi x3), some (vi x4), some (vi x5)] h =
  if x5 < (h 82 23) then
    (if x4 = 0 then
      (rM_pacesOf d n 13 [some (vr 7 82), some (vi x1), some (vi x2), some (vi x3), some (vi 0), some (vi (x5 + 1))] h)
    else am_b 8 x5 fun j1 =>
    if (h 104 j1) = x1 then
      (am_b 8 x5 fun j2 =>
      am_r1 (am_g d 154 [vi x3, vi (h 105 j2)] h) fun h3 v4 =>
      am_b 8 x5 fun j5 =>
      if v4 = (h3 106 j5) then
        (rM_pacesOf d n 13 [some (vr 7 82), some (vi x1), some (vi x2), some (vi x3), some (vi 1), some (vi (x5 + 1))] h3)
      else rM_pacesOf d n 13 [some (vr 7 82), some (vi x1), some (vi x2), some (vi x3), some (vi 0), some (vi (x5 + 1))] h3)
    else rM_pacesOf d n 13 [some (vr 7 82), some (vi x1), some (vi x2), some (vi x3), some (vi 1), some (vi (x5 + 1))] h)
  else if x4 = 0 then
    (rM_pacesOf d n 5 [some (vr 7 82), some (vi x1), some (vi (x2 ||| 0)), some (vi (x3 + 1)), some (vi x4), some (vi x5)] h)
  else rM_pacesOf d n 5 [some (vr 7 82), some (vi x1), some (vi (x2 ||| ((1 : Int32) <<< (x3 &&& 31)))), some (vi (x3 + 1)), some (vi x4), some (vi x5)] h := qM_pacesOf_13 (am_g d) n x1 x2 x3 x4 x5 h
def rM_paces (d n i : Nat) (ls : am_L) (h : am_H) : am_Z := am_run 0 (fun _ => 0) cM_paces (am_g d) n i ls h
theorem gM_paces (d : Nat) (x1 : Int32) (h : am_H) : am_g (d + 1) 156 [vr 7 82, vi x1] h =
  am_r1 (am_g d 108 [vr 7 82, vi x1] h) fun h1 v2 =>
  if v2 = 0 then
    (some (h1, some (-1)))
  else am_r1 (am_g d 155 [vr 7 82, vi x1] h1) fun h3 v4 =>
  some (h3, some v4) := (am_g_run (tb := cM_paces) rfl rfl (Nat.le_of_ble_eq_true rfl) rfl).trans (qM_paces_0 (am_g d) 999999 x1 h)
def rM_look (d n i : Nat) (ls : am_L) (h : am_H) : am_Z := am_run 0 (fun _ => 0) cM_look (am_g d) n i ls h
theorem gM_look (d : Nat) (x1 : Int32) (x2 : Int32) (h : am_H) : am_g (d + 1) 157 [vr 7 82, vi x1, vi x2] h =
  am_r1 (am_g d 108 [vr 7 82, vi x1] h) fun h1 v2 =>
  if v2 = 0 then
    (some (h1, some (-1)))
  else am_r1 (am_g d 95 [vl (Int32.toInt64 x2), vl (Int32.toInt64 0), vl (Int32.toInt64 1)] h1) fun h3 v4 =>
  if v4 = 0 then
    (some (h3, some (-1)))
  else am_r1 (am_g d 155 [vr 7 82, vi x1] h3) fun h5 v6 =>
  rM_look d 999999 23 [some (vr 7 82), some (vi x1), some (vi x2), some (vi v6), some (vi (-4)), some (vi 0), some (vi 1), none, none, none, none] h5 := (am_g_run (tb := cM_look) rfl rfl (Nat.le_of_ble_eq_true rfl) rfl).trans (qM_look_0 (am_g d) 999999 x1 x2 h)
theorem tM_look_23 (d n : Nat) (x1 : Int32) (x2 : Int32) (x3 : Int32) (x4 : Int32) (x5 : Int32) (x6 : Int32) (u7 : Option am_V) (u8 : Option am_V) (u9 : Option am_V) (u10 : Option am_V) (h : am_H) : rM_look d (n + 1) 23 [some (vr 7 82), some (vi x1), some (vi x2), some (vi x3), some (vi x4), some (vi x5), some (vi x6), u7, u8, u9, u10] h =
  if 24 < x6 then
    (if x4 < 0 then
      (some (h, some x4))
    else if x2 = 0 then
      (some (h, some x4))
    else some (h, some x5))
  else if x3 = 0 then
    (if x4 < 0 then
      (some (h, some x4))
    else if x2 = 0 then
      (some (h, some x4))
    else some (h, some x5))
  else rM_look d n 33 [some (vr 7 82), some (vi x1), some (vi x2), some (vi x3), some (vi x4), some (vi x5), some (vi x6), some (vi 0), some (vi 0), u9, u10] h := qM_look_23 (am_g d) n x1 x2 x3 x4 x5 x6 u7 u8 u9 u10 h
theorem tM_look_33 (d n : Nat) (x1 : Int32) (x2 : Int32) (x3 : Int32) (x4 : Int32) (x5 : Int32) (x6 : Int32) (x7 : Int32) (x8 : Int32) (u9 : Option am_V) (u10 : Option am_V) (h : am_H) : rM_look d (n + 1) 33 [some (vr 7 82), some (vi x1), some (vi x2), some (vi x3), some (vi x4), some (vi x5), some (vi x6), some (vi x7), some (vi x8), u9, u10] h =
  if x8 < 16 then
    (rM_look d n 41 [some (vr 7 82), some (vi x1), some (vi x2), some (vi x3), some (vi x4), some (vi x5), some (vi x6), some (vi x7), some (vi x8), some (vi 0), some (vi 0)] h)
  else if x4 < 0 then
    (if x6 = x6 then
      (rM_look d n 23 [some (vr 7 82), some (vi x1), some (vi x2), some (vi x3), some (vi x6), some (vi x7), some (vi (x6 + 1)), some (vi x7), some (vi x8), u9, u10] h)
    else rM_look d n 23 [some (vr 7 82), some (vi x1), some (vi x2), some (vi x3), some (vi x6), some (vi x5), some (vi (x6 + 1)), some (vi x7), some (vi x8), u9, u10] h)
  else if x7 < x5 then
    (if x6 = x6 then
      (rM_look d n 23 [some (vr 7 82), some (vi x1), some (vi x2), some (vi x3), some (vi x6), some (vi x7), some (vi (x6 + 1)), some (vi x7), some (vi x8), u9, u10] h)
    else rM_look d n 23 [some (vr 7 82), some (vi x1), some (vi x2), some (vi x3), some (vi x6), some (vi x5), some (vi (x6 + 1)), some (vi x7), some (vi x8), u9, u10] h)
  else if x4 = x6 then
    (rM_look d n 23 [some (vr 7 82), some (vi x1), some (vi x2), some (vi x3), some (vi x4), some (vi x7), some (vi (x6 + 1)), some (vi x7), some (vi x8), u9, u10] h)
  else rM_look d n 23 [some (vr 7 82), some (vi x1), some (vi x2), some (vi x3), some (vi x4), some (vi x5), some (vi (x6 + 1)), some (vi x7), some (vi x8), u9, u10] h := qM_look_33 (am_g d) n x1 x2 x3 x4 x5 x6 x7 x8 u9 u10 h
theorem tM_look_41 (d n : Nat) (x1 : Int32) (x2 : Int32) (x3 : Int32) (x4 : Int32) (x5 : Int32) (x6 : Int32) (x7 : Int32) (x8 : Int32) (x9 : Int32) (x10 : Int32) (h : am_H) : rM_look d (n + 1) 41 [some (vr 7 82), some (vi x1), some (vi x2), some (vi x3), some (vi x4), some (vi x5), some (vi x6), some (vi x7), some (vi x8), some (vi x9), some (vi x10)] h =
  if x10 < 16 then
    (am_r1 (am_g d 96 [vi x3, vi x8] h) fun h1 v2 =>
    if v2 = 0 then
      (rM_look d n 41 [some (vr 7 82), some (vi x1), some (vi x2), some (vi x3), some (vi x4), some (vi x5), some (vi x6), some (vi x7), some (vi x8), some (vi (x9 + 0)), some (vi (x10 + 1))] h1)
    else am_r1 (am_g d 96 [vi x3, vi x10] h1) fun h3 v4 =>
    if v4 = 0 then
      (rM_look d n 41 [some (vr 7 82), some (vi x1), some (vi x2), some (vi x3), some (vi x4), some (vi x5), some (vi x6), some (vi x7), some (vi x8), some (vi (x9 + 0)), some (vi (x10 + 1))] h3)
    else am_r1 (am_g d 154 [vi x8, vi x6] h3) fun h5 v6 =>
    am_r1 (am_g d 154 [vi x10, vi x6] h5) fun h7 v8 =>
    if v6 = v8 then
      (rM_look d n 41 [some (vr 7 82), some (vi x1), some (vi x2), some (vi x3), some (vi x4), some (vi x5), some (vi x6), some (vi x7), some (vi x8), some (vi (x9 + 1)), some (vi (x10 + 1))] h7)
    else rM_look d n 41 [some (vr 7 82), some (vi x1), some (vi x2), some (vi x3), some (vi x4), some (vi x5), some (vi x6), some (vi x7), some (vi x8), some (vi (x9 + 0)), some (vi (x10 + 1))] h7)
  else if x7 < x9 then
    (rM_look d n 33 [some (vr 7 82), some (vi x1), some (vi x2), some (vi x3), some (vi x4), some (vi x5), some (vi x6), some (vi x9), some (vi (x8 + 1)), some (vi x9), some (vi x10)] h)
  else rM_look d n 33 [some (vr 7 82), some (vi x1), some (vi x2), some (vi x3), some (vi x4), some (vi x5), some (vi x6), some (vi x7), some (vi (x8 + 1)), some (vi x9), some (vi x10)] h := qM_look_41 (am_g d) n x1 x2 x3 x4 x5 x6 x7 x8 x9 x10 h
def rM_mended (d n i : Nat) (ls : am_L) (h : am_H) : am_Z := am_run 0 (fun _ => 0) cM_mended (am_g d) n i ls h
theorem gM_mended (d : Nat) (x1 : Int32) (h : am_H) : am_g (d + 1) 158 [vr 7 82, vi x1] h =
  am_r1 (am_g d 108 [vr 7 82, vi x1] h) fun h1 v2 =>
  if v2 = 0 then
    (some (h1, some (-1)))
  else rM_mended d 999999 9 [some (vr 7 82), some (vi x1), some (vi 0), none, none, none] h1 := (am_g_run (tb := cM_mended) rfl rfl (Nat.le_of_ble_eq_true rfl) rfl).trans (qM_mended_0 (am_g d) 999999 x1 h)
theorem tM_mended_9 (d n : Nat) (x1 : Int32) (x2 : Int32) (u3 : Option am_V) (u4 : Option am_V) (u5 : Option am_V) (h : am_H) : rM_mended d (n + 1) 9 [some (vr 7 82), some (vi x1), some (vi x2), u3, u4, u5] h =
  if x2 < 4 then
    (am_b 4 x2 fun j1 =>
    am_b 4 x2 fun j2 =>
    rM_mended d n 9 [some (vr 7 82), some (vi x1), some (vi (x2 + 1)), u3, u4, u5] (am_up h 123 j2 (h 109 j1)))
  else am_b 12 x1 fun j3 =>
  am_b 12 x1 fun j4 =>
  am_b 12 x1 fun j5 =>
  am_b 12 x1 fun j6 =>
  am_r0 (am_g d 123 [vr 7 82] (am_up (am_up h 85 j5 1) 86 j6 1)) fun h7 =>
  rM_mended d n 49 [some (vr 7 82), some (vi x1), some (vi (h 85 j3)), some (vi (h 86 j4)), some (vi 0), some (vi 0)] h7 := qM_mended_9 (am_g d) n x1 x2 u3 u4 u5 h
theorem tM_mended_49 (d n : Nat) (x1 : Int32) (x2 : Int32) (x3 : Int32) (x4 : Int32) (x5 : Int32) (h : am_H) : rM_mended d (n + 1) 49 [some (vr 7 82), some (vi x1), some (vi x2), some (vi x3), some (vi x4), some (vi x5)] h =
  if x5 < (h 92 0) then
    (am_b 4 x5 fun j1 =>
    am_b 4 x5 fun j2 =>
    if (h 109 j1) = (h 123 j2) then
      (rM_mended d n 49 [some (vr 7 82), some (vi x1), some (vi x2), some (vi x3), some (vi (x4 ||| 0)), some (vi (x5 + 1))] h)
    else rM_mended d n 49 [some (vr 7 82), some (vi x1), some (vi x2), some (vi x3), some (vi (x4 ||| ((1 : Int32) <<< (x5 &&& 31)))), some (vi (x5 + 1))] h)
  else am_b 12 x1 fun j3 =>
  am_b 12 x1 fun j4 =>
  am_r0 (am_g d 123 [vr 7 82] (am_up (am_up h 85 j3 x2) 86 j4 x3)) fun h5 =>
  some (h5, some x4) := qM_mended_49 (am_g d) n x1 x2 x3 x4 x5 h
def rM_day (d n i : Nat) (ls : am_L) (h : am_H) : am_Z := am_run 0 (fun _ => 0) cM_day (am_g d) n i ls h
theorem gM_day (d : Nat) (x1 : Int32) (x2 : Int32) (x3 : Int32) (h : am_H) : am_g (d + 1) 159 [vr 7 82, vi x1, vi x2, vi x3] h =
  am_r1 (am_g d 95 [vl (Int32.toInt64 x1), vl (Int32.toInt64 0), vl (Int32.toInt64 9999)] h) fun h1 v2 =>
  if v2 = 0 then
    (some (h1, some (-1)))
  else am_r1 (am_g d 110 [vr 7 82, vi x2] h1) fun h3 v4 =>
  if v4 = 0 then
    (some (h3, some (-1)))
  else am_r1 (am_g d 95 [vl (Int32.toInt64 x3), vl (Int32.toInt64 0), vl (Int32.toInt64 1)] h3) fun h5 v6 =>
  if v6 = 0 then
    (some (h5, some (-1)))
  else am_b 4 x2 fun j7 =>
  am_b 4 x2 fun j8 =>
  rM_day d 999999 31 [some (vr 7 82), some (vi x1), some (vi x2), some (vi x3), some (vi (h5 108 j7)), some (vi (h5 109 j8)), some (vi 0), none, none, none, none] h5 := (am_g_run (tb := cM_day) rfl rfl (Nat.le_of_ble_eq_true rfl) rfl).trans (qM_day_0 (am_g d) 999999 x1 x2 x3 h)
theorem tM_day_31 (d n : Nat) (x1 : Int32) (x2 : Int32) (x3 : Int32) (x4 : Int32) (x5 : Int32) (x6 : Int32) (u7 : Option am_V) (u8 : Option am_V) (u9 : Option am_V) (u10 : Option am_V) (h : am_H) : rM_day d (n + 1) 31 [some (vr 7 82), some (vi x1), some (vi x2), some (vi x3), some (vi x4), some (vi x5), some (vi x6), u7, u8, u9, u10] h =
  if x6 < 12 then
    (if Int32.toInt64 65521 = 0 then none else
    rM_day d n 54 [some (vr 7 82), some (vi x1), some (vi x2), some (vi x3), some (vi x4), some (vi x5), some (vi x6), some (vl ((((Int32.toInt64 7919) * (Int32.toInt64 x1)) + ((Int32.toInt64 6151) * (Int32.toInt64 x6))) + (Int32.toInt64 1))), none, some (vi (Int64.toInt32 (am_reml (((((Int32.toInt64 7919) * (Int32.toInt64 x1)) + ((Int32.toInt64 6151) * (Int32.toInt64 x6))) + (Int32.toInt64 1)) * ((((Int32.toInt64 7919) * (Int32.toInt64 x1)) + ((Int32.toInt64 6151) * (Int32.toInt64 x6))) + (Int32.toInt64 1))) (Int32.toInt64 65521)))), u10] h)
  else if x3 = 0 then
    (some (h, some (x5 + 100000)))
  else some (h, some x4) := qM_day_31 (am_g d) n x1 x2 x3 x4 x5 x6 u7 u8 u9 u10 h
theorem tM_day_54 (d n : Nat) (x1 : Int32) (x2 : Int32) (x3 : Int32) (x4 : Int32) (x5 : Int32) (x6 : Int32) (y7 : Int64) (u8 : Option am_V) (x9 : Int32) (u10 : Option am_V) (h : am_H) : rM_day d (n + 1) 54 [some (vr 7 82), some (vi x1), some (vi x2), some (vi x3), some (vi x4), some (vi x5), some (vi x6), some (vl y7), u8, some (vi x9), u10] h =
  if (am_rem x9 3) = 0 then
    (am_r1 (am_g d 112 [vr 7 82, vi x4] h) fun h1 v2 =>
    rM_day d n 31 [some (vr 7 82), some (vi x1), some (vi x2), some (vi x3), some (vi x4), some (vi (x5 + (((am_rem (x9 / 4) 3) + 1) * v2))), some (vi (x6 + 1)), some (vl y7), u8, some (vi x9), u10] h1)
  else if 0 < (h 88 0) then
    (if h 88 0 = 0 then none else
    am_r1 (am_g d 115 [vr 7 82, vi (am_rem (x9 / 8) (h 88 0)), vi x4] h) fun h3 v4 =>
    if v4 = 0 then
      (rM_day d n 31 [some (vr 7 82), some (vi x1), some (vi x2), some (vi x3), some (vi x4), some (vi x5), some (vi (x6 + 1)), some (vl y7), u8, some (vi x9), u10] h3)
    else if h3 88 0 = 0 then none else
    am_r1 (am_g d 142 [vr 7 82, vi (am_rem (x9 / 8) (h3 88 0)), vi x4] h3) fun h5 v6 =>
    am_r1 (am_g d 117 [vr 7 82, vi (am_rem (x9 / 8) (h3 88 0)), vi x4] h5) fun h7 v8 =>
    rM_day d n 31 [some (vr 7 82), some (vi x1), some (vi x2), some (vi x3), some (vi v8), some (vi (x5 + v6)), some (vi (x6 + 1)), some (vl y7), u8, some (vi x9), some (vi (am_rem (x9 / 8) (h3 88 0)))] h7)
  else rM_day d n 31 [some (vr 7 82), some (vi x1), some (vi x2), some (vi x3), some (vi x4), some (vi x5), some (vi (x6 + 1)), some (vl y7), u8, some (vi x9), u10] h := qM_day_54 (am_g d) n x1 x2 x3 x4 x5 x6 y7 u8 x9 u10 h
def rM_copy (d n i : Nat) (ls : am_L) (h : am_H) : am_Z := am_run 0 (fun _ => 0) cM_copy (am_g d) n i ls h
theorem gM_copy (d : Nat) (x1 : Int32) (x2 : Int32) (h : am_H) : am_g (d + 1) 160 [vr 7 82, vi x1, vi x2] h =
  am_b 3 x1 fun j1 =>
  am_b 3 x2 fun j2 =>
  rM_copy d 999999 11 [some (vr 7 82), some (vi x1), some (vi x2), some (vi 0)] (am_up h 100 j2 (h 100 j1)) := (am_g_run (tb := cM_copy) rfl rfl (Nat.le_of_ble_eq_true rfl) rfl).trans (qM_copy_0 (am_g d) 999999 x1 x2 h)
theorem tM_copy_11 (d n : Nat) (x1 : Int32) (x2 : Int32) (x3 : Int32) (h : am_H) : rM_copy d (n + 1) 11 [some (vr 7 82), some (vi x1), some (vi x2), some (vi x3)] h =
  if x3 < 40 then
    (am_b 120 ((40 * x1) + x3) fun j1 =>
    am_b 120 ((40 * x2) + x3) fun j2 =>
    am_b 120 ((40 * x1) + x3) fun j3 =>
    am_b 120 ((40 * x2) + x3) fun j4 =>
    am_b 120 ((40 * x1) + x3) fun j5 =>
    am_b 120 ((40 * x2) + x3) fun j6 =>
    rM_copy d n 11 [some (vr 7 82), some (vi x1), some (vi x2), some (vi (x3 + 1))] (am_up (am_up (am_up h 101 j2 (h 101 j1)) 102 j4 (h 102 j3)) 103 j6 (h 103 j5)))
  else some (h, none) := qM_copy_11 (am_g d) n x1 x2 x3 h
def rM_keep (d n i : Nat) (ls : am_L) (h : am_H) : am_Z := am_run 0 (fun _ => 0) cM_keep (am_g d) n i ls h
theorem gM_keep (d : Nat)  (h : am_H) : am_g (d + 1) 161 [vr 7 82] h =
  if (h 82 22) = 2 then
    (some (h, some (-3)))
  else am_r0 (am_g d 160 [vr 7 82, vi 0, vi ((h 82 22) + 1)] (am_up h 82 22 ((h 82 22) + 1))) fun h1 =>
  some (h1, some (h1 82 22)) := (am_g_run (tb := cM_keep) rfl rfl (Nat.le_of_ble_eq_true rfl) rfl).trans (qM_keep_0 (am_g d) 999999  h)
def rM_back (d n i : Nat) (ls : am_L) (h : am_H) : am_Z := am_run 0 (fun _ => 0) cM_back (am_g d) n i ls h
theorem gM_back (d : Nat)  (h : am_H) : am_g (d + 1) 162 [vr 7 82] h =
  if (h 82 22) = 0 then
    (some (h, some (-2)))
  else am_r0 (am_g d 160 [vr 7 82, vi (h 82 22), vi 0] h) fun h1 =>
  am_r0 (am_g d 123 [vr 7 82] (am_up h1 82 22 ((h1 82 22) - 1))) fun h2 =>
  some (h2, some (h2 82 22)) := (am_g_run (tb := cM_back) rfl rfl (Nat.le_of_ble_eq_true rfl) rfl).trans (qM_back_0 (am_g d) 999999  h)
def rM_count (d n i : Nat) (ls : am_L) (h : am_H) : am_Z := am_run 0 (fun _ => 0) cM_count (am_g d) n i ls h
theorem gM_count (d : Nat) (x1 : Int32) (h : am_H) : am_g (d + 1) 163 [vr 7 82, vi x1] h =
  if x1 = nI 0 then
    (some (h, some (h 84 0)))
  else if x1 = nI 1 then
    (some (h, some (h 88 0)))
  else if x1 = nI 2 then
    (some (h, some (h 92 0)))
  else if x1 = nI 3 then
    (some (h, some (h 95 0)))
  else if x1 = nI 4 then
    (some (h, some (h 100 0)))
  else if x1 = nI 5 then
    (some (h, some (h 82 23)))
  else if x1 = nI 6 then
    (some (h, some (h 82 22)))
  else if x1 = nI 7 then
    (some (h, some (h 82 0)))
  else if x1 = nI 8 then
    (some (h, some (h 99 0)))
  else some (h, some (-1)) := (am_g_run (tb := cM_count) rfl rfl (Nat.le_of_ble_eq_true rfl) rfl).trans (qM_count_0 (am_g d) 999999 x1 h)
end
section
/-! SMALL LAWS over the calls -/
theorem b_ok {n j : Nat} (h : j < n) (hn : n < 2 ^ 31) (k : Nat → am_Z) : am_b n (nI j) k = k j := by
  have hj : j < 2 ^ 31 := by omega
  unfold am_b
  rw [nI_clamp hj, if_neg]
  intro q
  rcases q with q | q
  · exact nI_pos hj q
  · omega
theorem r1_ok (h : am_H) (x : Int32) (k : am_H → Int32 → am_Z) : am_r1 (some (h, some x)) k = k h x := rfl
theorem r0_ok (h : am_H) (k : am_H → am_Z) : am_r0 (some (h, none)) k = k h := rfl
theorem up_c (h : am_H) (c i : Nat) (x : Int32) : am_up h c i x c = upd (h c) i x := by simp [am_up, va_up]
theorem up_n {h : am_H} {c i : Nat} {x : Int32} {c' : Nat} (hc : c' ≠ c) : am_up h c i x c' = h c' := by simp [am_up, va_up, hc]
theorem up_s (h : am_H) (c i : Nat) (x : Int32) : am_up h c i x c i = x := by simp [am_up, va_up, upd]
theorem up_d {h : am_H} {c i j : Nat} {x : Int32} (hj : j ≠ i) : am_up h c i x c j = h c j := by simp [am_up, va_up, upd, hj]
theorem up_a (h : am_H) (c i : Nat) (x : Int32) (c' j : Nat) : am_up h c i x c' j = if c' = c ∧ j = i then x else h c' j := by
  unfold am_up va_up upd
  by_cases e : c' = c
  · subst e
    by_cases f : j = i <;> simp [f]
  · simp [e]
/-- an answer of yes or no -/
def yn (c : Prop) [Decidable c] : Int32 := if c then 1 else 0
theorem yn_0 {c : Prop} [Decidable c] : (yn c = 0) ↔ ¬ c := by
  unfold yn
  split
  · simp [*]
  · simp [*]
theorem yn_1 {c : Prop} [Decidable c] : (yn c = 1) ↔ c := by
  unfold yn
  split
  · simp [*]
  · simp [*]
theorem yn_b {c : Prop} [Decidable c] : yn c &&& 1 = yn c := by
  unfold yn
  split <;> rfl
theorem cmp_lt (x y : Int64) : (lg_cmp x y < 0) ↔ x < y := by
  unfold lg_cmp
  by_cases h1 : x > y
  · rw [if_pos h1]
    constructor
    · intro h; exact absurd h (by decide)
    · intro h; exact absurd (Int64.lt_trans h h1) (Int64.lt_irrefl)
  · rw [if_neg h1]
    by_cases h2 : x = y
    · rw [if_pos h2]
      constructor
      · intro h; exact absurd h (by decide)
      · intro h; rw [h2] at h; exact absurd h (Int64.lt_irrefl)
    · rw [if_neg h2]
      constructor
      · intro _
        rcases Int64.lt_or_lt_of_ne h2 with q | q
        · exact q
        · exact absurd q h1
      · intro _; decide
theorem cmp_gt (x y : Int64) : (0 < lg_cmp x y) ↔ y < x := by
  unfold lg_cmp
  by_cases h1 : x > y
  · rw [if_pos h1]
    constructor
    · intro _; exact h1
    · intro _; decide
  · rw [if_neg h1]
    constructor
    · intro h
      by_cases h2 : x = y
      · rw [if_pos h2] at h; exact absurd h (by decide)
      · rw [if_neg h2] at h; exact absurd h (by decide)
    · intro h; exact absurd h h1
theorem l_lt (a b : Int32) : (a.toInt64 < b.toInt64) ↔ a < b := by
  rw [Int64.lt_iff_toInt_lt, Int32.lt_iff_toInt_lt, Int32.toInt_toInt64, Int32.toInt_toInt64]
/-- the reference's question whether a number lies between two -/
theorem gM_in_ok (d : Nat) (a b c : Int32) (h : am_H) : am_g (d + 1) 95 [vl a.toInt64, vl b.toInt64, vl c.toInt64] h = some (h, some (yn (¬ a < b ∧ ¬ c < a))) := by
  rw [gM_in]
  simp only [cmp_lt, cmp_gt, l_lt, yn]
  by_cases h1 : a < b
  · simp [h1]
  · by_cases h2 : c < a
    · simp [h1, h2]
    · simp [h1, h2]
/-- an index: outside, or a place -/
theorem ix_c {x : Int32} {n : Nat} (hn : n < 2 ^ 31) : (¬ (¬ x < 0 ∧ x < nI n)) ∨ ∃ j, j < n ∧ x = nI j := by
  rcases pk_ix x hn with h | h | ⟨j, h1, h2⟩
  · exact Or.inl fun q => q.1 h
  · exact Or.inl fun q => absurd q.2 (Int32.not_lt.mpr h)
  · exact Or.inr ⟨j, h1, h2⟩
theorem ix_t {j n : Nat} (h : j < n) (hn : n < 2 ^ 31) : ¬ nI j < 0 ∧ nI j < nI n := ⟨nI_pos (by omega), nI_lt h hn⟩
end
section
/-! THE PURE COURSE: persons, things and visits by the acts; the house is read off the reference's cells -/
def nR (S : am_H) : Nat := (S 84 0).toNatClampNeg
def nD (S : am_H) : Nat := (S 88 0).toNatClampNeg
def nP (S : am_H) : Nat := (S 92 0).toNatClampNeg
def nT (S : am_H) : Nat := (S 95 0).toNatClampNeg
/-- the house is as a text may tell it -/
def VH (S : am_H) : Prop :=
  (S 84 0 = nI (nR S) ∧ 1 ≤ nR S ∧ nR S ≤ 6) ∧ (S 88 0 = nI (nD S) ∧ nD S ≤ 8) ∧ (S 92 0 = nI (nP S) ∧ 1 ≤ nP S ∧ nP S ≤ 4) ∧ (S 95 0 = nI (nT S) ∧ nT S ≤ 5) ∧
  (∃ w, w ≤ 3 ∧ S 99 0 = nI w) ∧
  (∀ r, r < nR S → ∃ p q o, (1 ≤ p ∧ p ≤ 4) ∧ (1 ≤ q ∧ q ≤ 4) ∧ o ≤ 23 ∧ S 85 r = nI p ∧ S 86 r = nI q ∧ S 87 r = nI o) ∧
  (∀ d, d < nD S → ∃ a b, a < nR S ∧ b < nR S ∧ a ≠ b ∧ S 89 d = nI a ∧ S 90 d = nI b ∧ -24 ≤ (S 91 d).toInt ∧ (S 91 d).toInt ≤ 24) ∧
  (∀ i, i < nP S → ∃ r a, r < nR S ∧ a ≤ 99 ∧ S 93 i = nI r ∧ S 94 i = nI a) ∧
  (∀ t, t < nT S → ∃ r k n, r < nR S ∧ k ≤ 3 ∧ (1 ≤ n ∧ n ≤ 99) ∧ S 96 t = nI r ∧ S 97 t = nI k ∧ S 98 t = nI n)
theorem VH_congr {S S' : am_H} (h : ∀ c, 84 ≤ c → c ≤ 99 → S' c = S c) (hv : VH S) : VH S' := by
  have e84 := h 84 (by omega) (by omega)
  have e85 := h 85 (by omega) (by omega)
  have e86 := h 86 (by omega) (by omega)
  have e87 := h 87 (by omega) (by omega)
  have e88 := h 88 (by omega) (by omega)
  have e89 := h 89 (by omega) (by omega)
  have e90 := h 90 (by omega) (by omega)
  have e91 := h 91 (by omega) (by omega)
  have e92 := h 92 (by omega) (by omega)
  have e93 := h 93 (by omega) (by omega)
  have e94 := h 94 (by omega) (by omega)
  have e95 := h 95 (by omega) (by omega)
  have e96 := h 96 (by omega) (by omega)
  have e97 := h 97 (by omega) (by omega)
  have e98 := h 98 (by omega) (by omega)
  have e99 := h 99 (by omega) (by omega)
  unfold VH nR nD nP nT at *
  rw [e84, e85, e86, e87, e88, e89, e90, e91, e92, e93, e94, e95, e96, e97, e98, e99]
  exact hv
abbrev K_V : Type := Nat × Int32 × Int32 × Int32
abbrev K_T : Type := am_H × List K_V
/-- ticks of an hour of a room -/
def hOf (S : am_H) (r : Nat) : Int32 := (12 * S 86 r) / S 85 r
def oBy (S : am_H) (r : Nat) (x : Int32) : Int32 := (x * S 85 r) * (12 / S 86 r)
def rmOf (K : K_T) (i : Nat) : Nat := (K.1 0 i).toNatClampNeg
/-- the latest visit of a person ends at t -/
def vSet (i : Nat) (t : Int32) : List K_V → List K_V
  | [] => []
  | (w, r, a, b) :: l => if w = i then (w, r, a, t) :: l else (w, r, a, b) :: vSet i t l
/-- how many visits of a person -/
def cV (i : Nat) : List K_V → Nat
  | [] => 0
  | (w, _) :: l => (if w = i then 1 else 0) + cV i l
def kBy (S : am_H) (i : Nat) (x : Int32) (K : K_T) : K_T :=
  (fun f j => if f = 1 ∧ j = i then K.1 1 i + x * hOf S (rmOf K i) else if f = 2 ∧ j = i then K.1 2 i + x else if f = 6 ∧ K.1 4 j = nI i then K.1 6 j + 144 * x else K.1 f j, vSet i (K.1 1 i + x * hOf S (rmOf K i)) K.2)
def kIn (i : Nat) (r : Int32) (K : K_T) : K_T := (am_up K.1 0 i r, (i, r, K.1 1 i, K.1 1 i) :: K.2)
abbrev bes (S : am_H) (d : Nat) (r : Int32) : Prop := S 89 d = r ∨ S 90 d = r
def led (S : am_H) (d : Nat) (r : Int32) : Int32 := if S 89 d = r then S 91 d else -(S 91 d)
def byd (S : am_H) (d : Nat) (r : Int32) : Int32 := if S 89 d = r then S 90 d else S 89 d
/-- behind the hours of going: through the door -/
def kDo (S : am_H) (i d : Nat) (K : K_T) : K_T := kIn i (byd S d (K.1 0 i)) (am_up K.1 1 i (K.1 1 i + 12 * led S d (K.1 0 i)), K.2)
def kGo (S : am_H) (i d : Nat) (K : K_T) : K_T := if bes S d (K.1 0 i) then kDo S i d (kBy S i (S 99 0) K) else K
def kTk (S : am_H) (i t : Nat) (K : K_T) : K_T := if K.1 3 t = K.1 0 i ∧ ¬ K.1 1 i < K.1 5 t then (am_up (am_up (am_up K.1 6 t (K.1 6 t + oBy S (rmOf K i) (K.1 1 i - K.1 5 t))) 3 t (-4)) 4 t (nI i), K.2) else K
def kPt (i t : Nat) (K : K_T) : K_T := if K.1 4 t = nI i then (am_up (am_up (am_up K.1 4 t (-4)) 3 t (K.1 0 i)) 5 t (K.1 1 i), K.2) else K
/-- an act: kind, who, what -/
abbrev K_A : Type := Nat × Nat × Nat
def kAct (S : am_H) (a : K_A) (K : K_T) : K_T := match a with
  | (0, i, w) => kBy S i (nI w) K
  | (1, i, w) => kGo S i w K
  | (2, i, w) => kTk S i w K
  | (_, i, w) => kPt i w K
def vIni (S : am_H) : Nat → List K_V
  | 0 => []
  | n + 1 => (n, S 93 n, 0, 0) :: vIni S n
def kIni (S : am_H) : K_T := (fun f j => match f with
  | 0 => S 93 j
  | 1 => 0
  | 2 => S 94 j
  | 3 => S 96 j
  | 4 => -4
  | _ => 0, vIni S (nP S))
def kAll (S : am_H) (as : List K_A) : K_T := as.foldl (fun K a => kAct S a K) (kIni S)
/-- an act that may be -/
def okA (S : am_H) (a : K_A) : Prop := a.2.1 < nP S ∧ ((a.1 = 0 ∧ 1 ≤ a.2.2 ∧ a.2.2 ≤ 24) ∨ (a.1 = 1 ∧ a.2.2 < nD S) ∨ (a.1 = 2 ∧ a.2.2 < nT S) ∨ (a.1 = 3 ∧ a.2.2 < nT S))
/-- what holds of a course: ticks between -B and B, ages to A, n goings at most -/
def VKg (S : am_H) (B A : Int) (n : Nat) (K : K_T) : Prop :=
  (∀ i, i < nP S → (∃ r, r < nR S ∧ K.1 0 i = nI r) ∧ (-B ≤ (K.1 1 i).toInt ∧ (K.1 1 i).toInt ≤ B) ∧ (0 ≤ (K.1 2 i).toInt ∧ (K.1 2 i).toInt ≤ A) ∧ 1 ≤ cV i K.2 ∧ cV i K.2 ≤ 1 + n) ∧
  (∀ t, t < nT S → ((∃ r, r < nR S ∧ K.1 3 t = nI r) ∧ K.1 4 t = -4 ∨ K.1 3 t = -4 ∧ ∃ i, i < nP S ∧ K.1 4 t = nI i) ∧ (-B ≤ (K.1 5 t).toInt ∧ (K.1 5 t).toInt ≤ B)) ∧
  K.2.length ≤ nP S + n ∧ ∀ v ∈ K.2, v.1 < nP S ∧ (∃ r, r < nR S ∧ v.2.1 = nI r) ∧ (-B ≤ v.2.2.1.toInt ∧ v.2.2.1.toInt ≤ B) ∧ (-B ≤ v.2.2.2.toInt ∧ v.2.2.2.toInt ≤ B)
def VK (S : am_H) (n : Nat) (K : K_T) : Prop := VKg S (1152 * n) (99 + 24 * n) n K
/-! numbers -/
theorem ti_add {x y : Int32} (h1 : -2147483648 ≤ x.toInt + y.toInt) (h2 : x.toInt + y.toInt < 2147483648) : (x + y).toInt = x.toInt + y.toInt := by
  rw [Int32.toInt_add]
  unfold Int.bmod
  dsimp only
  split <;> omega
theorem ti_sub {x y : Int32} (h1 : -2147483648 ≤ x.toInt - y.toInt) (h2 : x.toInt - y.toInt < 2147483648) : (x - y).toInt = x.toInt - y.toInt := by
  rw [Int32.toInt_sub]
  unfold Int.bmod
  dsimp only
  split <;> omega
theorem ti_mul {x y : Int32} (h1 : -2147483648 ≤ x.toInt * y.toInt) (h2 : x.toInt * y.toInt < 2147483648) : (x * y).toInt = x.toInt * y.toInt := by
  rw [Int32.toInt_mul]
  generalize x.toInt * y.toInt = z at *
  unfold Int.bmod
  dsimp only
  split <;> omega
theorem ti_neg {x : Int32} (h1 : -2147483648 < x.toInt) : (-x).toInt = -x.toInt := by
  have e : -x = 0 - x := by simp
  have := Int32.toInt_lt x
  rw [e, ti_sub (by simp; omega) (by simp; omega)]
  simp
theorem ti_12 : (12 : Int32).toInt = 12 := rfl
/-- the hour of a room: 3 to 48 ticks -/
theorem hOf_nI {S : am_H} (hv : VH S) {r : Nat} (hr : r < nR S) : ∃ k, 3 ≤ k ∧ k ≤ 48 ∧ hOf S r = nI k := by
  obtain ⟨p, q, o, hp, hq, -, h1, h2, -⟩ := hv.2.2.2.2.2.1 r hr
  refine ⟨12 * q / p, ?_, ?_, ?_⟩
  · have : p = 1 ∨ p = 2 ∨ p = 3 ∨ p = 4 := by omega
    rcases this with rfl | rfl | rfl | rfl <;> omega
  · have : p = 1 ∨ p = 2 ∨ p = 3 ∨ p = 4 := by omega
    rcases this with rfl | rfl | rfl | rfl <;> omega
  · unfold hOf
    rw [h1, h2, show (12 : Int32) = nI 12 from rfl, pk_mul, pk_div (by omega) (by omega) (by omega)]
theorem VKg_mono {S : am_H} {B A B' A' : Int} {n n' : Nat} {K : K_T} (h : VKg S B A n K) (hB : B ≤ B') (hA : A ≤ A') (hn : n ≤ n') : VKg S B' A' n' K := by
  obtain ⟨h1, h2, h3, h4⟩ := h
  refine ⟨fun i hi => ?_, fun t ht => ?_, by omega, fun v hv => ?_⟩
  · obtain ⟨a, b, c, d, e⟩ := h1 i hi
    exact ⟨a, by omega, by omega, d, by omega⟩
  · obtain ⟨a, b⟩ := h2 t ht
    exact ⟨a, by omega⟩
  · obtain ⟨a, b, c, d⟩ := h4 v hv
    exact ⟨a, b, by omega, by omega⟩
theorem vSet_c (i j : Nat) (t : Int32) : ∀ l, cV i (vSet j t l) = cV i l := by
  intro l
  induction l with
  | nil => rfl
  | cons v l ih =>
    obtain ⟨w, r, a, b⟩ := v
    unfold vSet
    split
    · rfl
    · simp [cV, ih]
theorem vSet_l (j : Nat) (t : Int32) : ∀ l, (vSet j t l).length = l.length := by
  intro l
  induction l with
  | nil => rfl
  | cons v l ih =>
    obtain ⟨w, r, a, b⟩ := v
    unfold vSet
    split
    · rfl
    · simp [ih]
theorem vSet_m (j : Nat) (t : Int32) : ∀ (l : List K_V) (v : K_V), v ∈ vSet j t l → ∃ v' ∈ l, v.1 = v'.1 ∧ v.2.1 = v'.2.1 ∧ v.2.2.1 = v'.2.2.1 ∧ (v.2.2.2 = v'.2.2.2 ∨ v.2.2.2 = t) := by
  intro l
  induction l with
  | nil => intro v hv; cases hv
  | cons x l ih =>
    intro v hv
    obtain ⟨w, r, a, b⟩ := x
    unfold vSet at hv
    split at hv
    · rcases List.mem_cons.mp hv with rfl | hv
      · exact ⟨_, List.mem_cons_self, rfl, rfl, rfl, Or.inr rfl⟩
      · exact ⟨v, List.mem_cons_of_mem _ hv, rfl, rfl, rfl, Or.inl rfl⟩
    · rcases List.mem_cons.mp hv with rfl | hv
      · exact ⟨_, List.mem_cons_self, rfl, rfl, rfl, Or.inl rfl⟩
      · obtain ⟨v', h1, h2⟩ := ih v hv
        exact ⟨v', List.mem_cons_of_mem _ h1, h2⟩
theorem nI_rm {r : Nat} (h : r < 100) : (nI r).toNatClampNeg = r := nI_clamp (by omega)
theorem VKg_by {S : am_H} {B A : Int} {n : Nat} {K : K_T} (hv : VH S) (h : VKg S B A n K) {i w : Nat} (hi : i < nP S) (hw : w ≤ 24) (hB0 : 0 ≤ B) (hB : B ≤ 100000) (hA : A ≤ 100000) : VKg S (B + 48 * w) (A + w) n (kBy S i (nI w) K) := by
  obtain ⟨h1, h2, h3, h4⟩ := h
  obtain ⟨⟨r, hr, hri⟩, ht, ha, hc⟩ := h1 i hi
  have hR := hv.1.2.2
  have hrm : rmOf K i = r := by unfold rmOf; rw [hri, nI_rm (by omega)]
  obtain ⟨k, hk1, hk2, hk⟩ := hOf_nI hv (r := r) hr
  have hwk : w * k ≤ 48 * w := by rw [Nat.mul_comm 48]; exact Nat.mul_le_mul_left _ hk2
  have htk : (K.1 1 i + nI w * hOf S (rmOf K i)).toInt = (K.1 1 i).toInt + ((w * k : Nat) : Int) := by
    rw [hrm, hk, pk_mul, ti_add, nI_toInt (by omega)] <;> rw [nI_toInt (by omega)] <;> omega
  have hag : (K.1 2 i + nI w).toInt = (K.1 2 i).toInt + w := by
    rw [ti_add, nI_toInt (by omega)] <;> rw [nI_toInt (by omega)] <;> omega
  have e0 : ∀ j, (kBy S i (nI w) K).1 0 j = K.1 0 j := fun j => by simp [kBy]
  have e1 : ∀ j, (kBy S i (nI w) K).1 1 j = if j = i then K.1 1 i + nI w * hOf S (rmOf K i) else K.1 1 j := fun j => by simp [kBy]
  have e2 : ∀ j, (kBy S i (nI w) K).1 2 j = if j = i then K.1 2 i + nI w else K.1 2 j := fun j => by simp [kBy]
  have e3 : ∀ j, (kBy S i (nI w) K).1 3 j = K.1 3 j := fun j => by simp [kBy]
  have e4 : ∀ j, (kBy S i (nI w) K).1 4 j = K.1 4 j := fun j => by simp [kBy]
  have e5 : ∀ j, (kBy S i (nI w) K).1 5 j = K.1 5 j := fun j => by simp [kBy]
  have ev : (kBy S i (nI w) K).2 = vSet i (K.1 1 i + nI w * hOf S (rmOf K i)) K.2 := rfl
  refine ⟨fun j hj => ?_, fun t ht' => ?_, by rw [ev, vSet_l]; exact h3, fun v hv' => ?_⟩
  · obtain ⟨b1, b2, b3, b4⟩ := h1 j hj
    rw [e0, e1, e2, ev, vSet_c]
    refine ⟨b1, ?_, ?_, b4⟩
    · split
      · rw [htk]; omega
      · omega
    · split
      · rw [hag]; omega
      · omega
  · obtain ⟨b1, b2⟩ := h2 t ht'
    rw [e3, e4, e5]
    exact ⟨b1, by omega⟩
  · rw [ev] at hv'
    obtain ⟨v', hm, q1, q2, q3, q4⟩ := vSet_m _ _ _ _ hv'
    obtain ⟨b1, b2, b3, b4⟩ := h4 v' hm
    rw [q1, q2, q3]
    refine ⟨b1, b2, by omega, ?_⟩
    rcases q4 with q | q
    · rw [q]; omega
    · rw [q, htk]; omega
theorem led_b {S : am_H} (hv : VH S) {d : Nat} (hd : d < nD S) (r : Int32) : -24 ≤ (led S d r).toInt ∧ (led S d r).toInt ≤ 24 := by
  obtain ⟨a, b, -, -, -, -, -, h1, h2⟩ := hv.2.2.2.2.2.2.1 d hd
  unfold led
  split
  · exact ⟨h1, h2⟩
  · rw [ti_neg (by omega)]; omega
theorem byd_b {S : am_H} (hv : VH S) {d : Nat} (hd : d < nD S) (r : Int32) : ∃ b, b < nR S ∧ byd S d r = nI b := by
  obtain ⟨a, b, h1, h2, -, h3, h4, -, -⟩ := hv.2.2.2.2.2.2.1 d hd
  unfold byd
  split
  · exact ⟨b, h2, h4⟩
  · exact ⟨a, h1, h3⟩
theorem VKg_do {S : am_H} {B A : Int} {n : Nat} {K : K_T} (hv : VH S) (h : VKg S B A n K) {i d : Nat} (hi : i < nP S) (hd : d < nD S) (hB0 : 0 ≤ B) (hB : B ≤ 100000) : VKg S (B + 288) A (n + 1) (kDo S i d K) := by
  obtain ⟨h1, h2, h3, h4⟩ := h
  obtain ⟨-, ht, ha, hc⟩ := h1 i hi
  obtain ⟨b, hb, hbn⟩ := byd_b hv hd (K.1 0 i)
  have hl := led_b hv hd (K.1 0 i)
  have h12 : (12 * led S d (K.1 0 i)).toInt = 12 * (led S d (K.1 0 i)).toInt := by
    rw [ti_mul] <;> rw [ti_12] <;> omega
  have htk : (K.1 1 i + 12 * led S d (K.1 0 i)).toInt = (K.1 1 i).toInt + 12 * (led S d (K.1 0 i)).toInt := by
    rw [ti_add] <;> rw [h12] <;> omega
  have e0 : ∀ j, (kDo S i d K).1 0 j = if j = i then nI b else K.1 0 j := fun j => by simp [kDo, kIn, up_a, hbn]
  have e1 : ∀ j, (kDo S i d K).1 1 j = if j = i then K.1 1 i + 12 * led S d (K.1 0 i) else K.1 1 j := fun j => by simp [kDo, kIn, up_a]
  have e2 : ∀ f j, 2 ≤ f → (kDo S i d K).1 f j = K.1 f j := fun f j hf => by
    have q0 : ¬ f = 0 := by omega
    have q1 : ¬ f = 1 := by omega
    simp [kDo, kIn, up_a, q0, q1]
  have ev : (kDo S i d K).2 = (i, nI b, K.1 1 i + 12 * led S d (K.1 0 i), K.1 1 i + 12 * led S d (K.1 0 i)) :: K.2 := by simp [kDo, kIn, up_a, hbn]
  refine ⟨fun j hj => ?_, fun t ht' => ?_, by rw [ev]; simp; omega, fun v hv' => ?_⟩
  · obtain ⟨b1, b2, b3, b4⟩ := h1 j hj
    rw [e0, e1, e2 2 j (by omega), ev]
    refine ⟨?_, ?_, b3, ?_⟩
    · split
      · exact ⟨b, hb, rfl⟩
      · exact b1
    · split
      · rw [htk]; omega
      · omega
    · simp only [cV]
      split <;> omega
  · obtain ⟨b1, b2⟩ := h2 t ht'
    rw [e2 3 t (by omega), e2 4 t (by omega), e2 5 t (by omega)]
    exact ⟨b1, by omega⟩
  · rw [ev] at hv'
    rcases List.mem_cons.mp hv' with rfl | hv'
    · refine ⟨hi, ⟨b, hb, rfl⟩, ?_, ?_⟩ <;> rw [htk] <;> omega
    · obtain ⟨b1, b2, b3, b4⟩ := h4 v hv'
      exact ⟨b1, b2, by omega, by omega⟩
theorem m4_ne {r : Nat} (h : r < 100) : ¬ (nI r = (-4 : Int32)) := by
  intro q
  have := congrArg Int32.toInt q
  rw [nI_toInt (by omega)] at this
  have e : ((-4 : Int32)).toInt = -4 := rfl
  omega
theorem VKg_tk {S : am_H} {B A : Int} {n : Nat} {K : K_T} (h : VKg S B A n K) {i t : Nat} (hi : i < nP S) (hw : t < nT S) : VKg S B A n (kTk S i t K) := by
  unfold kTk
  split
  · obtain ⟨h1, h2, h3, h4⟩ := h
    refine ⟨fun j hj => ?_, fun t' ht' => ?_, h3, h4⟩
    · have := h1 j hj
      simpa [up_a] using this
    · obtain ⟨b1, b2⟩ := h2 t' ht'
      by_cases e : t' = t
      · subst e
        refine ⟨Or.inr ⟨by simp [up_a], i, hi, by simp [up_a]⟩, by simpa [up_a] using b2⟩
      · simp only [up_a, e]
        simpa using ⟨b1, b2⟩
  · exact h
theorem VKg_pt {S : am_H} {B A : Int} {n : Nat} {K : K_T} (h : VKg S B A n K) {i t : Nat} (hi : i < nP S) (hw : t < nT S) : VKg S B A n (kPt i t K) := by
  unfold kPt
  split
  · obtain ⟨h1, h2, h3, h4⟩ := h
    obtain ⟨c1, c2, -⟩ := h1 i hi
    refine ⟨fun j hj => ?_, fun t' ht' => ?_, h3, h4⟩
    · have := h1 j hj
      simpa [up_a] using this
    · obtain ⟨b1, b2⟩ := h2 t' ht'
      by_cases e : t' = t
      · subst e
        refine ⟨Or.inl ⟨by simpa [up_a] using c1, by simp [up_a]⟩, by simpa [up_a] using c2⟩
      · simp only [up_a, e]
        simpa using ⟨b1, b2⟩
  · exact h
theorem VK_act {S : am_H} {n : Nat} {K : K_T} (hv : VH S) (h : VK S n K) {a : K_A} (ha : okA S a) (hn : n < 40) : VK S (n + 1) (kAct S a K) := by
  obtain ⟨k, i, w⟩ := a
  obtain ⟨hi, hk⟩ := ha
  have hi : i < nP S := hi
  unfold VK at *
  rcases hk with ⟨e, h1, h2⟩ | ⟨e, h1⟩ | ⟨e, h1⟩ | ⟨e, h1⟩
  · have e : k = 0 := e
    subst e
    have h2 : w ≤ 24 := h2
    exact VKg_mono (VKg_by hv h hi h2 (by omega) (by omega) (by omega)) (by push_cast; omega) (by push_cast; omega) (by omega)
  · have e : k = 1 := e
    subst e
    have h1 : w < nD S := h1
    obtain ⟨x, hx, hx2⟩ := hv.2.2.2.2.1
    show VKg S _ _ _ (kGo S i w K)
    unfold kGo
    split
    · rw [hx2]
      exact VKg_mono (VKg_do hv (VKg_by hv h hi (w := x) (by omega) (by omega) (by omega) (by omega)) hi h1 (by omega) (by omega)) (by push_cast; omega) (by push_cast; omega) (by omega)
    · exact VKg_mono h (by push_cast; omega) (by push_cast; omega) (by omega)
  · have e : k = 2 := e
    subst e
    exact VKg_mono (VKg_tk h hi h1) (by push_cast; omega) (by push_cast; omega) (by omega)
  · have e : k = 3 := e
    subst e
    exact VKg_mono (VKg_pt h hi h1) (by push_cast; omega) (by push_cast; omega) (by omega)
theorem vIni_c (S : am_H) (i : Nat) : ∀ n, cV i (vIni S n) = if i < n then 1 else 0 := by
  intro n
  induction n with
  | zero => rfl
  | succ n ih =>
    simp only [vIni, cV, ih]
    by_cases h1 : n = i
    · subst h1; simp
    · by_cases h2 : i < n
      · simp [h1, h2]; omega
      · have : ¬ i < n + 1 := by omega
        simp [h1, h2, this]
theorem vIni_l (S : am_H) : ∀ n, (vIni S n).length = n := by
  intro n
  induction n with
  | zero => rfl
  | succ n ih => simp [vIni, ih]
theorem vIni_m (S : am_H) : ∀ n, ∀ v ∈ vIni S n, v.1 < n ∧ v.2 = (S 93 v.1, 0, 0) := by
  intro n
  induction n with
  | zero => intro v hv; cases hv
  | succ n ih =>
    intro v hv
    rcases List.mem_cons.mp hv with rfl | hv
    · exact ⟨by simp, rfl⟩
    · have := ih v hv
      exact ⟨by omega, this.2⟩
theorem VK_ini {S : am_H} (hv : VH S) : VK S 0 (kIni S) := by
  have z : ((0 : Int32)).toInt = 0 := rfl
  refine ⟨fun i hi => ?_, fun t ht => ?_, by show (vIni S (nP S)).length ≤ _; rw [vIni_l]; omega, fun v hv' => ?_⟩
  · obtain ⟨r, a, h1, h2, h3, h4⟩ := hv.2.2.2.2.2.2.2.1 i hi
    have hc : cV i (vIni S (nP S)) = 1 := by rw [vIni_c, if_pos hi]
    refine ⟨⟨r, h1, h3⟩, by show _ ∧ ((0 : Int32)).toInt ≤ _; simp [kIni], ?_, ?_⟩
    · show 0 ≤ (S 94 i).toInt ∧ (S 94 i).toInt ≤ _
      rw [h4, nI_toInt (by omega)]; omega
    · show 1 ≤ cV i (vIni S (nP S)) ∧ cV i (vIni S (nP S)) ≤ _
      rw [hc]; omega
  · obtain ⟨r, k, n, h1, h2, h3, h4, -⟩ := hv.2.2.2.2.2.2.2.2 t ht
    exact ⟨Or.inl ⟨⟨r, h1, h4⟩, rfl⟩, by simp [kIni]⟩
  · obtain ⟨h1, h2⟩ := vIni_m S _ v hv'
    obtain ⟨r, a, h3, -, h4, -⟩ := hv.2.2.2.2.2.2.2.1 v.1 h1
    rw [h2]
    exact ⟨h1, ⟨r, h3, h4⟩, by simp, by simp⟩
theorem VK_all {S : am_H} (hv : VH S) : ∀ (as : List K_A), (∀ a ∈ as, okA S a) → as.length ≤ 40 → VK S as.length (kAll S as) := by
  have key : ∀ (as : List K_A) (n : Nat) (K : K_T), VK S n K → (∀ a ∈ as, okA S a) → n + as.length ≤ 40 → VK S (n + as.length) (as.foldl (fun K a => kAct S a K) K) := by
    intro as
    induction as with
    | nil => intro n K h _ _; exact h
    | cons a as ih =>
      intro n K h ha hl
      have hl : n + (as.length + 1) ≤ 40 := hl
      have := ih (n + 1) (kAct S a K) (VK_act hv h (ha a List.mem_cons_self) (by omega)) (fun b hb => ha b (List.mem_cons_of_mem _ hb)) (by omega)
      rw [show n + (a :: as).length = n + 1 + as.length by simp; omega]
      exact this
  intro as ha hl
  have := key as 0 (kIni S) (VK_ini hv) ha (by omega)
  rw [Nat.zero_add] at this
  exact this
end
section
/-! THE REFERENCE'S COURSE -/
def vM (S : am_H) : List K_V → Prop
  | [] => True
  | (w, r, a, b) :: l => S 116 (41 * w + cV w l) = r ∧ S 117 (41 * w + cV w l) = a ∧ S 118 (41 * w + cV w l) = b ∧ vM S l
/-- the reference's cells say the course K -/
def RM (S : am_H) (K : K_T) : Prop :=
  (∀ i, i < nP S → S 108 i = K.1 0 i ∧ S 109 i = K.1 1 i ∧ S 110 i = K.1 2 i ∧ S 115 i = nI (cV i K.2)) ∧ (∀ t, t < nT S → S 111 t = K.1 3 t ∧ S 112 t = K.1 4 t ∧ S 113 t = K.1 5 t ∧ S 114 t = K.1 6 t) ∧ vM S K.2
theorem vM_congr {S S' : am_H} : ∀ {l : List K_V}, (∀ c j, 116 ≤ c → c ≤ 118 → (∃ w m, w ∈ l.map (fun v => v.1) ∧ m < cV w l ∧ j = 41 * w + m) → S' c j = S c j) → vM S l → vM S' l := by
  intro l
  induction l with
  | nil => intro _ _; trivial
  | cons v l ih =>
    intro h hv
    obtain ⟨w, r, a, b⟩ := v
    obtain ⟨h1, h2, h3, h4⟩ := hv
    have hw : ∃ w' m, w' ∈ ((w, r, a, b) :: l).map (fun v => v.1) ∧ m < cV w' ((w, r, a, b) :: l) ∧ 41 * w + cV w l = 41 * w' + m := ⟨w, cV w l, by simp, by simp [cV], rfl⟩
    refine ⟨by rw [h 116 _ (by omega) (by omega) hw]; exact h1, by rw [h 117 _ (by omega) (by omega) hw]; exact h2, by rw [h 118 _ (by omega) (by omega) hw]; exact h3, ih (fun c j hc1 hc2 hj => h c j hc1 hc2 ?_) h4⟩
    obtain ⟨w', m, q1, q2, q3⟩ := hj
    exact ⟨w', m, by simp at q1 ⊢; exact Or.inr q1, by simp only [cV]; omega, q3⟩
theorem gM_hourOf_ok (d : Nat) {S : am_H} (hv : VH S) {r : Nat} (hr : r < nR S) : am_g (d + 1) 112 [vr 7 82, vi (nI r)] S = some (S, some (hOf S r)) := by
  have hR := hv.1.2.2
  obtain ⟨p, q, o, hp, hq, -, h1, h2, -⟩ := hv.2.2.2.2.2.1 r hr
  rw [gM_hourOf, b_ok (by omega) (by omega), b_ok (by omega) (by omega), if_neg]
  · rfl
  · rw [h1]; exact nI_ne0 (by omega) (by omega)
theorem gM_oldBy_ok (d : Nat) {S : am_H} (hv : VH S) {r : Nat} (hr : r < nR S) (x : Int32) : am_g (d + 1) 113 [vr 7 82, vi (nI r), vi x] S = some (S, some (oBy S r x)) := by
  have hR := hv.1.2.2
  obtain ⟨p, q, o, hp, hq, -, h1, h2, -⟩ := hv.2.2.2.2.2.1 r hr
  rw [gM_oldBy, b_ok (by omega) (by omega), b_ok (by omega) (by omega), if_neg]
  · rfl
  · rw [h2]; exact nI_ne0 (by omega) (by omega)
theorem nI_sub1 {c : Nat} (h : 1 ≤ c) : nI c - 1 = nI (c - 1) := by
  obtain ⟨k, rfl⟩ : ∃ k, c = k + 1 := ⟨c - 1, by omega⟩
  rw [nI_pred]; rfl
/-- the things that one has grow older -/
def oF (i T t : Nat) (x : Int32) (M : am_H) : am_H := va_up M 114 (fun j => if t ≤ j ∧ j < T then M 114 j + (if M 112 j = nI i then 144 * x else 0) else M 114 j)
theorem oF_end (i T : Nat) (x : Int32) (M : am_H) : oF i T T x M = M := by
  funext c j
  unfold oF va_up
  split
  · rename_i e; subst e
    dsimp only
    rw [if_neg (by omega)]
  · rfl
theorem oF_step {i T t : Nat} (x : Int32) (M : am_H) (ht : t < T) : oF i T (t + 1) x (am_up M 114 t (M 114 t + (if M 112 t = nI i then 144 * x else 0))) = oF i T t x M := by
  funext c j
  unfold oF
  by_cases e : c = 114
  · subst e
    simp only [va_up, if_true, up_a, true_and]
    by_cases h1 : j = t
    · subst h1
      rw [if_neg (show ¬ (j + 1 ≤ j ∧ j < T) by omega), if_pos (show j ≤ j ∧ j < T by omega), if_pos rfl]
    · rw [if_neg h1]
      by_cases h2 : t ≤ j ∧ j < T
      · rw [if_pos (show t + 1 ≤ j ∧ j < T by omega), if_pos h2]; simp
      · rw [if_neg (show ¬ (t + 1 ≤ j ∧ j < T) by omega), if_neg h2]
  · simp [va_up, e, up_a]
theorem goBy_loop (d : Nat) {i T c : Nat} (x : Int32) (hi : i < 4) (hT : T ≤ 5) (hc1 : 1 ≤ c) (hc2 : c ≤ 41) : ∀ (k n t : Nat) (M : am_H), t + k = T → k < n → M 95 0 = nI T → M 115 i = nI c →
    rM_goBy d n 26 [some (vr 7 82), some (vi (nI i)), some (vi x), some (vi (nI t))] M = some (am_up (oF i T t x M) 118 (41 * i + c - 1) (M 109 i), none) := by
  intro k
  induction k with
  | zero =>
    intro n t M htk hn h1 h2
    obtain ⟨n, rfl⟩ : ∃ m, n = m + 1 := ⟨n - 1, by omega⟩
    have ht : t = T := by omega
    subst ht
    rw [tM_goBy_26, h1, if_neg (nI_nlt (Nat.le_refl _) (by omega)), b_ok (by omega) (by omega), b_ok (by omega) (by omega), h2, show (41 : Int32) = nI 41 from rfl, pk_mul, nI_add, nI_sub1 (by omega), b_ok (by omega) (by omega), oF_end]
  | succ k ih =>
    intro n t M htk hn h1 h2
    obtain ⟨n, rfl⟩ : ∃ m, n = m + 1 := ⟨n - 1, by omega⟩
    have ht : t < T := by omega
    have ih' := ih n (t + 1) (am_up M 114 t (M 114 t + (if M 112 t = nI i then 144 * x else 0))) (by omega) (by omega) (by rw [up_n (by omega)]; exact h1) (by rw [up_n (by omega)]; exact h2)
    rw [oF_step x M ht, up_n (by omega)] at ih'
    rw [tM_goBy_26, h1, if_pos (nI_lt ht (by omega)), b_ok (by omega) (by omega), b_ok (by omega) (by omega), nI_1]
    by_cases e : M 112 t = nI i
    · rw [if_pos e, b_ok (by omega) (by omega)]
      rw [if_pos e] at ih'
      exact ih'
    · rw [if_neg e, b_ok (by omega) (by omega)]
      rw [if_neg e] at ih'
      exact ih'
/-- where the visit's end of a person stands -/
theorem vM_set {S S' : am_H} {i : Nat} {x : Int32} : ∀ {l : List K_V}, 1 ≤ cV i l → (∀ v ∈ l, cV v.1 l ≤ 41) → vM S l → (∀ j, S' 116 j = S 116 j) → (∀ j, S' 117 j = S 117 j) → (∀ j, S' 118 j = if j = 41 * i + cV i l - 1 then x else S 118 j) → vM S' (vSet i x l) := by
  intro l
  induction l with
  | nil => intro h; simp [cV] at h
  | cons v l ih =>
    intro hc hb hv h6 h7 h8
    obtain ⟨w, r, a, b⟩ := v
    obtain ⟨h1, h2, h3, h4⟩ := hv
    have hbw : cV w ((w, r, a, b) :: l) ≤ 41 := hb _ List.mem_cons_self
    unfold vSet
    by_cases e : w = i
    · subst e
      rw [if_pos rfl]
      have hcl : cV w ((w, r, a, b) :: l) = 1 + cV w l := by simp [cV]
      refine ⟨by rw [h6]; exact h1, by rw [h7]; exact h2, by rw [h8, if_pos (by omega)], ?_⟩
      refine vM_congr (S := S) ?_ h4
      intro c j q1 q2 ⟨w', m, g1, g2, g3⟩
      have : c = 116 ∨ c = 117 ∨ c = 118 := by omega
      rcases this with rfl | rfl | rfl
      · exact h6 j
      · exact h7 j
      · rw [h8, if_neg]
        intro q
        obtain ⟨v', hv', rfl⟩ := List.mem_map.mp g1
        have hb' := hb v' (List.mem_cons_of_mem _ hv')
        have hm : cV v'.1 l ≤ cV v'.1 ((w, r, a, b) :: l) := by simp [cV]
        by_cases e2 : v'.1 = w
        · rw [e2] at g2 g3; omega
        · have : v'.1 < w ∨ w < v'.1 := by omega
          rcases this with q' | q'
          · have : 41 * v'.1 + 41 ≤ 41 * w := by omega
            omega
          · have : 41 * w + 41 ≤ 41 * v'.1 := by omega
            omega
    · rw [if_neg e]
      have hcl : cV i ((w, r, a, b) :: l) = cV i l := by simp [cV, e]
      rw [hcl] at hc h8
      have hbl : ∀ v ∈ l, cV v.1 l ≤ 41 := fun v hv' => by
        have := hb v (List.mem_cons_of_mem _ hv')
        have hm : cV v.1 l ≤ cV v.1 ((w, r, a, b) :: l) := by simp [cV]
        omega
      refine ⟨by rw [vSet_c, h6]; exact h1, by rw [vSet_c, h7]; exact h2, ?_, ih hc hbl h4 h6 h7 h8⟩
      rw [vSet_c, h8, if_neg]
      · exact h3
      · intro q
        have hcw : cV w ((w, r, a, b) :: l) = 1 + cV w l := by simp [cV]
        have hci : cV i l ≤ 41 := by
          have : ∃ v ∈ l, v.1 = i := by
            have : ∀ l' : List K_V, 1 ≤ cV i l' → ∃ v ∈ l', v.1 = i := by
              intro l'
              induction l' with
              | nil => intro h; simp [cV] at h
              | cons y l' ih2 =>
                intro h
                obtain ⟨w2, rest⟩ := y
                by_cases e3 : w2 = i
                · exact ⟨_, List.mem_cons_self, e3⟩
                · simp [cV, e3] at h
                  obtain ⟨v, hv1, hv2⟩ := ih2 h
                  exact ⟨v, List.mem_cons_of_mem _ hv1, hv2⟩
            exact this l hc
          obtain ⟨v, hv1, hv2⟩ := this
          have := hbl v hv1
          rw [hv2] at this
          exact this
        have : w < i ∨ i < w := by omega
        rcases this with q' | q'
        · have : 41 * w + 41 ≤ 41 * i := by omega
          omega
        · have : 41 * i + 41 ≤ 41 * w := by omega
          omega
/-- the course's cells alone have changed -/
def frM (S S' : am_H) : Prop := ∀ c, ¬ (108 ≤ c ∧ c ≤ 118) → S' c = S c
theorem frM.rf (S : am_H) : frM S S := fun _ _ => rfl
theorem frM.tr {S S' S'' : am_H} (h : frM S S') (h' : frM S' S'') : frM S S'' := fun c hc => (h' c hc).trans (h c hc)
theorem frM.vh {S S' : am_H} (h : frM S S') (hv : VH S) : VH S' := VH_congr (fun c h1 h2 => h c (by omega)) hv
theorem frM.eP {S S' : am_H} (h : frM S S') : nP S' = nP S := by unfold nP; rw [h 92 (by omega)]
theorem frM.eT {S S' : am_H} (h : frM S S') : nT S' = nT S := by unfold nT; rw [h 95 (by omega)]
theorem frM.eR {S S' : am_H} (h : frM S S') : nR S' = nR S := by unfold nR; rw [h 84 (by omega)]
theorem frM.eD {S S' : am_H} (h : frM S S') : nD S' = nD S := by unfold nD; rw [h 88 (by omega)]
theorem VK.cv {S : am_H} {B A : Int} {n : Nat} {K : K_T} (h : VKg S B A n K) (hn : n ≤ 40) : ∀ v ∈ K.2, cV v.1 K.2 ≤ 41 := fun v hv => by
  obtain ⟨h1, -⟩ := h.2.2.2 v hv
  have := (h.1 v.1 h1).2.2.2.2
  omega
theorem gM_goBy_ok (d : Nat) {S : am_H} {K : K_T} {B A : Int} {n : Nat} (hv : VH S) (hR : RM S K) (hK : VKg S B A n K) (hn : n ≤ 40) {i : Nat} (hi : i < nP S) (x : Int32) :
    ∃ S', am_g (d + 2) 114 [vr 7 82, vi (nI i), vi x] S = some (S', none) ∧ RM S' (kBy S i x K) ∧ frM S S' := by
  have hP := hv.2.2.1.2.2
  have hT := hv.2.2.2.1
  obtain ⟨r1, r2, r3⟩ := hR
  obtain ⟨a0, a1, a2, a5⟩ := r1 i hi
  obtain ⟨⟨r, hr, hri⟩, -, -, hc1, hc2⟩ := hK.1 i hi
  have hR6 := hv.1.2.2
  have hrm : rmOf K i = r := by unfold rmOf; rw [hri, nI_rm (by omega)]
  have h1 : am_g (d + 2) 114 [vr 7 82, vi (nI i), vi x] S = rM_goBy (d + 1) 999999 26 [some (vr 7 82), some (vi (nI i)), some (vi x), some (vi 0)] (am_up (am_up S 109 i (S 109 i + x * hOf S r)) 110 i (S 110 i + x)) := by
    rw [gM_goBy, b_ok (by omega) (by omega), b_ok (by omega) (by omega), a0, hri, gM_hourOf_ok d hv hr, r1_ok, b_ok (by omega) (by omega), b_ok (by omega) (by omega), b_ok (by omega) (by omega)]
  have h2 := goBy_loop (d + 1) (i := i) (T := nT S) (c := cV i K.2) x (by omega) (by omega) hc1 (by omega) (nT S) 999999 0 (am_up (am_up S 109 i (S 109 i + x * hOf S r)) 110 i (S 110 i + x)) (by omega) (by omega) (by rw [up_n (by omega), up_n (by omega)]; exact hT.1) (by rw [up_n (by omega), up_n (by omega)]; exact a5)
  rw [nI_0] at h2
  rw [h1, h2]
  generalize hS' : am_up (oF i (nT S) 0 x (am_up (am_up S 109 i (S 109 i + x * hOf S r)) 110 i (S 110 i + x))) 118 (41 * i + cV i K.2 - 1) ((am_up (am_up S 109 i (S 109 i + x * hOf S r)) 110 i (S 110 i + x)) 109 i) = S'
  have f109 : ∀ j, S' 109 j = if j = i then S 109 i + x * hOf S r else S 109 j := fun j => by rw [← hS']; simp [up_a, oF, va_up]
  have f110 : ∀ j, S' 110 j = if j = i then S 110 i + x else S 110 j := fun j => by rw [← hS']; simp [up_a, oF, va_up]
  have f114 : ∀ j, j < nT S → S' 114 j = S 114 j + (if S 112 j = nI i then 144 * x else 0) := fun j hj => by rw [← hS']; simp [up_a, oF, va_up, hj]
  have f118 : ∀ j, S' 118 j = if j = 41 * i + cV i K.2 - 1 then S 109 i + x * hOf S r else S 118 j := fun j => by rw [← hS']; simp [up_a, oF, va_up]
  have fo : ∀ c, c ≠ 109 → c ≠ 110 → c ≠ 114 → c ≠ 118 → S' c = S c := fun c e1 e2 e3 e4 => by
    funext j
    rw [← hS']; simp [up_a, oF, va_up, e1, e2, e3, e4]
  have hfr : frM S S' := fun c hc => fo c (by omega) (by omega) (by omega) (by omega)
  refine ⟨S', rfl, ⟨fun j hj => ?_, fun t ht => ?_, ?_⟩, hfr⟩
  · rw [hfr.eP] at hj
    obtain ⟨b0, b1, b2, b5⟩ := r1 j hj
    rw [fo 108 (by omega) (by omega) (by omega) (by omega), fo 115 (by omega) (by omega) (by omega) (by omega), f109, f110]
    refine ⟨by simp [kBy, b0], ?_, ?_, by simp [kBy, vSet_c, b5]⟩
    · by_cases e : j = i
      · subst e; simp [kBy, a1, hrm]
      · simp [kBy, e, b1]
    · by_cases e : j = i
      · subst e; simp [kBy, a2]
      · simp [kBy, e, b2]
  · rw [hfr.eT] at ht
    obtain ⟨b3, b4, b5, b6⟩ := r2 t ht
    rw [fo 111 (by omega) (by omega) (by omega) (by omega), fo 112 (by omega) (by omega) (by omega) (by omega), fo 113 (by omega) (by omega) (by omega) (by omega), f114 t ht]
    refine ⟨by simp [kBy, b3], by simp [kBy, b4], by simp [kBy, b5], ?_⟩
    by_cases e : K.1 4 t = nI i
    · simp [kBy, b4, b6, e]
    · simp [kBy, b4, b6, e]
  · have e0 : (kBy S i x K).2 = vSet i (K.1 1 i + x * hOf S r) K.2 := by simp [kBy, hrm]
    rw [e0]
    refine vM_set (S := S) hc1 (VK.cv hK hn) r3 (fun j => ?_) (fun j => ?_) (fun j => ?_)
    · rw [fo 116 (by omega) (by omega) (by omega) (by omega)]
    · rw [fo 117 (by omega) (by omega) (by omega) (by omega)]
    · rw [f118, a1]
theorem gM_comeIn_raw (d : Nat) {S : am_H} {i c : Nat} (hi : i < 4) (hc : c ≤ 40) (h5 : S 115 i = nI c) (x : Int32) : am_g (d + 1) 118 [vr 7 82, vi (nI i), vi x] S = some (am_up (am_up (am_up (am_up (am_up S 108 i x) 116 (41 * i + c) x) 117 (41 * i + c) (S 109 i)) 118 (41 * i + c) (S 109 i)) 115 i (nI (c + 1)), none) := by
  rw [gM_comeIn, b_ok (by omega) (by omega), b_ok (by omega) (by omega), h5, show (41 : Int32) = nI 41 from rfl, pk_mul, nI_add, b_ok (by omega) (by omega), b_ok (by omega) (by omega), b_ok (by omega) (by omega), b_ok (by omega) (by omega), b_ok (by omega) (by omega), b_ok (by omega) (by omega), b_ok (by omega) (by omega), h5, nI_1]
theorem vM_new {S S' : am_H} {i c : Nat} {l : List K_V} (hc : cV i l = c) (hcv : ∀ v ∈ l, cV v.1 l ≤ 41) (h : ∀ k j, 116 ≤ k → k ≤ 118 → j ≠ 41 * i + c → S' k j = S k j) (hci : c ≤ 40) (hv : vM S l) : vM S' l := by
  refine vM_congr (S := S) ?_ hv
  intro k j q1 q2 ⟨w', m, g1, g2, g3⟩
  obtain ⟨v', hv', rfl⟩ := List.mem_map.mp g1
  have hb' := hcv v' hv'
  refine h k j q1 q2 ?_
  intro q
  by_cases e2 : v'.1 = i
  · rw [e2] at g2 g3; omega
  · have : v'.1 < i ∨ i < v'.1 := by omega
    rcases this with q' | q'
    · have : 41 * v'.1 + 41 ≤ 41 * i := by omega
      omega
    · have : 41 * i + 41 ≤ 41 * v'.1 := by omega
      omega
theorem gM_comeIn_ok (d : Nat) {S : am_H} {K : K_T} (hP : nP S ≤ 4) (hR : RM S K) {i : Nat} (hi : i < nP S) (hci : cV i K.2 ≤ 40) (hcv : ∀ v ∈ K.2, cV v.1 K.2 ≤ 41) (x : Int32) :
    ∃ S', am_g (d + 1) 118 [vr 7 82, vi (nI i), vi x] S = some (S', none) ∧ RM S' (kIn i x K) ∧ frM S S' := by
  obtain ⟨r1, r2, r3⟩ := hR
  obtain ⟨a0, a1, a2, a5⟩ := r1 i hi
  refine ⟨_, gM_comeIn_raw d (by omega) hci a5 x, ⟨fun j hj => ?_, fun t ht => ?_, ?_⟩, ?_⟩
  · have hj : j < nP S := by simpa [nP, up_a] using hj
    obtain ⟨b0, b1, b2, b5⟩ := r1 j hj
    simp only [kIn, cV, up_a]
    by_cases e : j = i
    · subst e
      simp [a1, a2, Nat.add_comm]
    · have e' : ¬ i = j := fun q => e q.symm
      simp [e, e', b0, b1, b2, b5]
  · have ht : t < nT S := by simpa [nT, up_a] using ht
    have := r2 t ht
    simpa [kIn, up_a] using this
  · refine ⟨by simp [up_a], by simp [up_a, a1], by simp [up_a, a1], vM_new rfl hcv (fun k j q1 q2 hne => ?_) hci r3⟩
    have c1 : ¬ k = 108 := by omega
    have c2 : ¬ k = 115 := by omega
    simp [up_a, hne, c1, c2]
  · intro c hc
    have e1 : ¬ c = 118 := by omega
    have e2 : ¬ c = 117 := by omega
    have e3 : ¬ c = 116 := by omega
    have e4 : ¬ c = 115 := by omega
    have e5 : ¬ c = 108 := by omega
    funext j
    simp [up_a, e1, e2, e3, e4, e5]
theorem gM_isBeside_ok (d : Nat) {S : am_H} (hv : VH S) {e : Nat} (he : e < nD S) (r : Int32) : am_g (d + 1) 115 [vr 7 82, vi (nI e), vi r] S = some (S, some (yn (bes S e r))) := by
  have hD := hv.2.1.2
  rw [gM_isBeside, b_ok (by omega) (by omega), b_ok (by omega) (by omega)]
  unfold yn
  by_cases h1 : S 89 e = r
  · simp [h1]
  · by_cases h2 : S 90 e = r
    · simp [h2]
    · simp [h1, h2]
theorem gM_leadFrom_ok (d : Nat) {S : am_H} (hv : VH S) {e : Nat} (he : e < nD S) (r : Int32) : am_g (d + 1) 116 [vr 7 82, vi (nI e), vi r] S = some (S, some (led S e r)) := by
  have hD := hv.2.1.2
  rw [gM_leadFrom, b_ok (by omega) (by omega), b_ok (by omega) (by omega), b_ok (by omega) (by omega)]
  unfold led
  by_cases h1 : S 89 e = r <;> simp [h1]
theorem gM_beyond_ok (d : Nat) {S : am_H} (hv : VH S) {e : Nat} (he : e < nD S) (r : Int32) : am_g (d + 1) 117 [vr 7 82, vi (nI e), vi r] S = some (S, some (byd S e r)) := by
  have hD := hv.2.1.2
  rw [gM_beyond, b_ok (by omega) (by omega), b_ok (by omega) (by omega), b_ok (by omega) (by omega)]
  unfold byd
  by_cases h1 : S 89 e = r <;> simp [h1]
theorem VKg_congr {S S' : am_H} {B A : Int} {n : Nat} {K : K_T} (h1 : nP S' = nP S) (h2 : nR S' = nR S) (h3 : nT S' = nT S) (h : VKg S B A n K) : VKg S' B A n K := by
  unfold VKg at *
  rw [h1, h2, h3]
  exact h
theorem frM.led {S S' : am_H} (h : frM S S') (e : Nat) (r : Int32) : led S' e r = led S e r := by
  show (if S' 89 e = r then S' 91 e else -(S' 91 e)) = (if S 89 e = r then S 91 e else -(S 91 e))
  rw [h 89 (by omega), h 91 (by omega)]
theorem frM.byd {S S' : am_H} (h : frM S S') (e : Nat) (r : Int32) : byd S' e r = byd S e r := by
  show (if S' 89 e = r then S' 90 e else S' 89 e) = (if S 89 e = r then S 90 e else S 89 e)
  rw [h 89 (by omega), h 90 (by omega)]
/-- what the house's cells alone decide -/
theorem kAct_congr {S S' : am_H} (h : ∀ c, 84 ≤ c → c ≤ 99 → S' c = S c) (a : K_A) (K : K_T) : kAct S' a K = kAct S a K := by
  have e85 := h 85 (by omega) (by omega)
  have e86 := h 86 (by omega) (by omega)
  have e89 := h 89 (by omega) (by omega)
  have e90 := h 90 (by omega) (by omega)
  have e91 := h 91 (by omega) (by omega)
  have e99 := h 99 (by omega) (by omega)
  have hb : ∀ i x K, kBy S' i x K = kBy S i x K := fun i x K => by
    have : hOf S' (rmOf K i) = hOf S (rmOf K i) := by unfold hOf; rw [e85, e86]
    unfold kBy; rw [this]
  have hdo : ∀ i d K, kDo S' i d K = kDo S i d K := fun i d K => by
    unfold kDo led byd; rw [e89, e90, e91]
  obtain ⟨k, i, w⟩ := a
  match k with
  | 0 => exact hb i _ K
  | 1 =>
    show kGo S' i w K = kGo S i w K
    unfold kGo bes
    rw [hb, hdo, e89, e90, e99]
  | 2 =>
    show kTk S' i w K = kTk S i w K
    unfold kTk oBy
    rw [e85, e86]
  | k + 3 => rfl
theorem gM_goDoor_ok (d : Nat) {S : am_H} {K : K_T} {B A : Int} {n : Nat} (hv : VH S) (hR : RM S K) (hK : VKg S B A n K) (hn : n < 40) {i e : Nat} (hi : i < nP S) (he : e < nD S) :
    ∃ S', am_g (d + 3) 119 [vr 7 82, vi (nI i), vi (nI e)] S = some (S', some (yn (bes S e (K.1 0 i)))) ∧ RM S' (kGo S i e K) ∧ frM S S' := by
  have hP := hv.2.2.1.2.2
  have a0 := (hR.1 i hi).1
  rw [gM_goDoor, b_ok (by omega) (by omega), a0, gM_isBeside_ok (d + 1) hv he, r1_ok]
  by_cases hb : bes S e (K.1 0 i)
  · rw [if_neg (by rw [yn_0]; exact fun q => q hb)]
    obtain ⟨S1, h1, hR1, hf1⟩ := gM_goBy_ok d hv hR hK (by omega) hi (S 99 0)
    have hv1 := hf1.vh hv
    have hi1 : i < nP S1 := by rw [hf1.eP]; exact hi
    have he1 : e < nD S1 := by rw [hf1.eD]; exact he
    have hk0 : (kBy S i (S 99 0) K).1 0 i = K.1 0 i := by simp [kBy]
    have c0 : S1 108 i = K.1 0 i := (hR1.1 i hi1).1.trans hk0
    have c1 : S1 109 i = (kBy S i (S 99 0) K).1 1 i := (hR1.1 i hi1).2.1
    rw [h1, r0_ok, b_ok (by omega) (by omega), b_ok (by omega) (by omega), c0, gM_leadFrom_ok (d + 1) hv1 he1, r1_ok, b_ok (by omega) (by omega), hf1.led, c1]
    generalize hS2 : am_up S1 109 i ((kBy S i (S 99 0) K).1 1 i + 12 * led S e (K.1 0 i)) = S2
    have hf2 : frM S1 S2 := fun c hc => by rw [← hS2]; exact up_n (by omega)
    have hv2 := hf2.vh hv1
    have hf12 := hf1.tr hf2
    rw [gM_beyond_ok (d + 1) hv2 (by rw [hf12.eD]; exact he), r1_ok, hf12.byd]
    have hR2 : RM S2 (am_up (kBy S i (S 99 0) K).1 1 i ((kBy S i (S 99 0) K).1 1 i + 12 * led S e (K.1 0 i)), (kBy S i (S 99 0) K).2) := by
      refine ⟨fun j hj => ?_, fun t ht => ?_, ?_⟩
      · rw [hf2.eP] at hj
        obtain ⟨b0, b1, b2, b5⟩ := hR1.1 j hj
        rw [← hS2]
        by_cases q : j = i
        · subst q; simp [up_a, b0, b2, b5]
        · simp [up_a, q, b0, b1, b2, b5]
      · rw [hf2.eT] at ht
        have := hR1.2.1 t ht
        rw [← hS2]
        simpa [up_a] using this
      · refine vM_congr (S := S1) (fun c j q1 q2 _ => ?_) hR1.2.2
        rw [← hS2, up_n (by omega)]
    have hcv : ∀ v ∈ (kBy S i (S 99 0) K).2, cV v.1 (kBy S i (S 99 0) K).2 ≤ 41 := by
      intro v hv'
      show cV v.1 (vSet i _ K.2) ≤ 41
      rw [vSet_c]
      obtain ⟨v', hm, q1, -⟩ := vSet_m _ _ _ _ hv'
      rw [q1]
      exact VK.cv hK (by omega) v' hm
    have hci : cV i (kBy S i (S 99 0) K).2 ≤ 40 := by
      show cV i (vSet i _ K.2) ≤ 40
      rw [vSet_c]
      have := (hK.1 i hi).2.2.2.2
      omega
    obtain ⟨S3, h3, hR3, hf3⟩ := gM_comeIn_ok (d + 1) (by rw [hf12.eP]; exact hP) hR2 (i := i) (by rw [hf12.eP]; exact hi) hci hcv (byd S e (K.1 0 i))
    rw [h3, r0_ok]
    refine ⟨S3, by simp [yn, hb], ?_, hf12.tr hf3⟩
    unfold kGo kDo
    rw [if_pos hb, hk0]
    exact hR3
  · rw [if_pos (by rw [yn_0]; exact hb)]
    exact ⟨S, by simp [yn, hb], by unfold kGo; rw [if_neg hb]; exact hR, frM.rf S⟩
end
section
theorem gM_takeUp_ok (d : Nat) {S : am_H} {K : K_T} {B A : Int} {n : Nat} (hv : VH S) (hR : RM S K) (hK : VKg S B A n K) {i t : Nat} (hi : i < nP S) (ht : t < nT S) :
    ∃ S', am_g (d + 2) 120 [vr 7 82, vi (nI i), vi (nI t)] S = some (S', some (yn (K.1 3 t = K.1 0 i ∧ ¬ K.1 1 i < K.1 5 t))) ∧ RM S' (kTk S i t K) ∧ frM S S' := by
  have hP := hv.2.2.1.2.2
  have hT := hv.2.2.2.1.2
  obtain ⟨r1, r2, r3⟩ := hR
  obtain ⟨a0, a1, a2, a5⟩ := r1 i hi
  obtain ⟨b3, b4, b5, b6⟩ := r2 t ht
  obtain ⟨⟨r, hr, hri⟩, -⟩ := hK.1 i hi
  have hR6 := hv.1.2.2
  have hrm : rmOf K i = r := by unfold rmOf; rw [hri, nI_rm (by omega)]
  rw [gM_takeUp, b_ok (by omega) (by omega), b_ok (by omega) (by omega), a0, b3]
  by_cases e1 : K.1 3 t = K.1 0 i
  · rw [if_pos e1, b_ok (by omega) (by omega), b_ok (by omega) (by omega), a1, b5]
    by_cases e2 : K.1 1 i < K.1 5 t
    · rw [if_pos e2]
      refine ⟨S, by simp [yn, e2], ?_, frM.rf S⟩
      unfold kTk
      rw [if_neg (fun q => q.2 e2)]
      exact ⟨r1, r2, r3⟩
    · rw [if_neg e2, b_ok (by omega) (by omega), b_ok (by omega) (by omega), b_ok (by omega) (by omega), b_ok (by omega) (by omega), a0, a1, b5, b6, hri, gM_oldBy_ok d hv hr, r1_ok, b_ok (by omega) (by omega), b_ok (by omega) (by omega), b_ok (by omega) (by omega)]
      generalize hS' : am_up (am_up (am_up S 114 t (K.1 6 t + oBy S r (K.1 1 i - K.1 5 t))) 111 t (-4)) 112 t (nI i) = S'
      have hfr : frM S S' := fun c hc => by rw [← hS', up_n (by omega), up_n (by omega), up_n (by omega)]
      refine ⟨S', by rw [← hri]; simp [yn, e1, e2], ?_, hfr⟩
      unfold kTk
      rw [if_pos ⟨e1, e2⟩, hrm]
      refine ⟨fun j hj => ?_, fun t' ht' => ?_, ?_⟩
      · rw [hfr.eP] at hj
        have := r1 j hj
        rw [← hS']
        simpa [up_a] using this
      · rw [hfr.eT] at ht'
        obtain ⟨c3, c4, c5, c6⟩ := r2 t' ht'
        rw [← hS']
        by_cases q : t' = t
        · subst q; simp [up_a, b5]
        · simp [up_a, q, c3, c4, c5, c6]
      · refine vM_congr (S := S) (fun c j q1 q2 _ => ?_) r3
        rw [← hS', up_n (by omega), up_n (by omega), up_n (by omega)]
  · rw [if_neg e1]
    refine ⟨S, by simp [yn, e1], ?_, frM.rf S⟩
    unfold kTk
    rw [if_neg (fun q => e1 q.1)]
    exact ⟨r1, r2, r3⟩
theorem gM_putDown_ok (d : Nat) {S : am_H} {K : K_T} (hv : VH S) (hR : RM S K) {i t : Nat} (hi : i < nP S) (ht : t < nT S) :
    ∃ S', am_g (d + 1) 121 [vr 7 82, vi (nI i), vi (nI t)] S = some (S', some (yn (K.1 4 t = nI i))) ∧ RM S' (kPt i t K) ∧ frM S S' := by
  have hP := hv.2.2.1.2.2
  have hT := hv.2.2.2.1.2
  obtain ⟨r1, r2, r3⟩ := hR
  obtain ⟨a0, a1, a2, a5⟩ := r1 i hi
  obtain ⟨b3, b4, b5, b6⟩ := r2 t ht
  rw [gM_putDown, b_ok (by omega) (by omega), b4]
  by_cases e1 : K.1 4 t = nI i
  · rw [if_pos e1, b_ok (by omega) (by omega), b_ok (by omega) (by omega), b_ok (by omega) (by omega), b_ok (by omega) (by omega), b_ok (by omega) (by omega), a0, a1]
    generalize hS' : am_up (am_up (am_up S 112 t (-4)) 111 t (K.1 0 i)) 113 t (K.1 1 i) = S'
    have hfr : frM S S' := fun c hc => by rw [← hS', up_n (by omega), up_n (by omega), up_n (by omega)]
    refine ⟨S', by simp [yn, e1], ?_, hfr⟩
    unfold kPt
    rw [if_pos e1]
    refine ⟨fun j hj => ?_, fun t' ht' => ?_, ?_⟩
    · rw [hfr.eP] at hj
      have := r1 j hj
      rw [← hS']
      simpa [up_a] using this
    · rw [hfr.eT] at ht'
      obtain ⟨c3, c4, c5, c6⟩ := r2 t' ht'
      rw [← hS']
      by_cases q : t' = t
      · subst q; simp [up_a, b6]
      · simp [up_a, q, c3, c4, c5, c6]
    · refine vM_congr (S := S) (fun c j q1 q2 _ => ?_) r3
      rw [← hS', up_n (by omega), up_n (by omega), up_n (by omega)]
  · rw [if_neg e1]
    refine ⟨S, by simp [yn, e1], ?_, frM.rf S⟩
    unfold kPt
    rw [if_neg e1]
    exact ⟨r1, r2, r3⟩
theorem nI_ne {a b : Nat} (h : a ≠ b) (ha : a < 2 ^ 31) (hb : b < 2 ^ 31) : ¬ nI a = nI b := fun q => h ((nI_eq ha hb).mp q)
theorem gM_doAct_ok (d : Nat) {S : am_H} {K : K_T} {n : Nat} (hv : VH S) (hR : RM S K) (hK : VK S n K) (hn : n < 40) {a : K_A} (ha : okA S a) :
    ∃ S' b, am_g (d + 4) 122 [vr 7 82, vi (nI a.1), vi (nI a.2.1), vi (nI a.2.2)] S = some (S', some b) ∧ RM S' (kAct S a K) ∧ frM S S' := by
  obtain ⟨k, i, w⟩ := a
  obtain ⟨hi, hk⟩ := ha
  dsimp only at hi hk ⊢
  rw [gM_doAct]
  rcases hk with ⟨rfl, h1, h2⟩ | ⟨rfl, h1⟩ | ⟨rfl, h1⟩ | ⟨rfl, h1⟩
  · obtain ⟨S', h3, h4, h5⟩ := gM_goBy_ok (d + 1) hv hR hK (by omega) hi (nI w)
    rw [if_pos rfl, h3, r0_ok]
    exact ⟨S', 1, rfl, h4, h5⟩
  · obtain ⟨S', h3, h4, h5⟩ := gM_goDoor_ok d hv hR hK hn hi h1
    rw [if_neg (nI_ne (by omega) (by omega) (by omega)), if_pos rfl, h3, r1_ok, if_pos yn_b]
    exact ⟨S', _, rfl, h4, h5⟩
  · obtain ⟨S', h3, h4, h5⟩ := gM_takeUp_ok (d + 1) hv hR hK hi h1
    rw [if_neg (nI_ne (by omega) (by omega) (by omega)), if_neg (nI_ne (by omega) (by omega) (by omega)), if_pos rfl, h3, r1_ok, if_pos yn_b]
    exact ⟨S', _, rfl, h4, h5⟩
  · obtain ⟨S', h3, h4, h5⟩ := gM_putDown_ok (d + 2) hv hR hi h1
    rw [if_neg (nI_ne (by omega) (by omega) (by omega)), if_neg (nI_ne (by omega) (by omega) (by omega)), if_neg (nI_ne (by omega) (by omega) (by omega)), h3, r1_ok, if_pos yn_b]
    exact ⟨S', _, rfl, h4, h5⟩
/-- the acts of a bank -/
def RAm (S : am_H) (b : Nat) (as : List K_A) : Prop := S 100 b = nI as.length ∧ ∀ (j : Nat) (a : K_A), as[j]? = some a → S 101 (40 * b + j) = nI a.1 ∧ S 102 (40 * b + j) = nI a.2.1 ∧ S 103 (40 * b + j) = nI a.2.2
theorem RAm_congr {S S' : am_H} {b : Nat} {as : List K_A} (h : ∀ c, 100 ≤ c → c ≤ 103 → S' c = S c) (hr : RAm S b as) : RAm S' b as := by
  unfold RAm at *
  rw [h 100 (by omega) (by omega), h 101 (by omega) (by omega), h 102 (by omega) (by omega), h 103 (by omega) (by omega)]
  exact hr
/-- the persons are set anew -/
theorem goAll_p (d : Nat) {S : am_H} (hv : VH S) : ∀ (k n i : Nat) (M : am_H), i + k = nP S → k < n → frM S M → (∀ j, j < i → M 108 j = S 93 j ∧ M 109 j = 0 ∧ M 110 j = S 94 j ∧ M 115 j = nI 1) → vM M (vIni S i) →
    ∃ M', rM_goAll (d + 1) n 3 [some (vr 7 82), some (vi (nI i))] M = rM_goAll (d + 1) (n - k - 1) 39 [some (vr 7 82), some (vi 0)] M' ∧ frM S M' ∧ (∀ j, j < nP S → M' 108 j = S 93 j ∧ M' 109 j = 0 ∧ M' 110 j = S 94 j ∧ M' 115 j = nI 1) ∧ vM M' (vIni S (nP S)) := by
  have hP := hv.2.2.1
  intro k
  induction k with
  | zero =>
    intro n i M hik hn hf h1 h2
    obtain ⟨n, rfl⟩ : ∃ m, n = m + 1 := ⟨n - 1, by omega⟩
    have e : i = nP S := by omega
    subst e
    refine ⟨M, ?_, hf, h1, h2⟩
    rw [tM_goAll_3, hf 92 (by omega), hP.1, if_neg (nI_nlt (Nat.le_refl _) (by omega))]
    rfl
  | succ k ih =>
    intro n i M hik hn hf h1 h2
    obtain ⟨n, rfl⟩ : ∃ m, n = m + 1 := ⟨n - 1, by omega⟩
    have hi : i < nP S := by omega
    rw [tM_goAll_3, hf 92 (by omega), hP.1, if_pos (nI_lt hi (by omega)), b_ok (by omega) (by omega), b_ok (by omega) (by omega), b_ok (by omega) (by omega), b_ok (by omega) (by omega), b_ok (by omega) (by omega), hf 93 (by omega), hf 94 (by omega)]
    generalize hM1 : am_up (am_up (am_up M 109 i 0) 110 i (S 94 i)) 115 i 0 = M1
    have hM5 : M1 115 i = nI 0 := by rw [← hM1]; simp [up_a, nI_0]
    rw [gM_comeIn_raw d (by omega) (by omega) hM5, r0_ok, nI_1]
    generalize hM2 : am_up (am_up (am_up (am_up (am_up M1 108 i (S 93 i)) 116 (41 * i + 0) (S 93 i)) 117 (41 * i + 0) (M1 109 i)) 118 (41 * i + 0) (M1 109 i)) 115 i (nI (0 + 1)) = M2
    have hM9 : M1 109 i = 0 := by rw [← hM1]; simp [up_a]
    have hf2 : frM S M2 := fun c hc => by
      rw [← hM2, up_n (by omega), up_n (by omega), up_n (by omega), up_n (by omega), up_n (by omega), ← hM1, up_n (by omega), up_n (by omega), up_n (by omega)]
      exact hf c hc
    obtain ⟨M', g1, g2⟩ := ih n (i + 1) M2 (by omega) (by omega) hf2 (fun j hj => by
      by_cases q : j = i
      · subst q
        rw [← hM2, ← hM1]
        simp [up_a]
      · have := h1 j (by omega)
        rw [← hM2, ← hM1]
        simpa [up_a, q] using this) ⟨by rw [← hM2, vIni_c]; simp [up_a], by rw [← hM2, vIni_c]; simp [up_a, hM9], by rw [← hM2, vIni_c]; simp [up_a, hM9], by
        refine vM_new (S := M) (i := i) (c := 0) (by rw [vIni_c]; simp) (fun v _ => by rw [vIni_c]; split <;> omega) (fun k j q1 q2 hne => ?_) (by omega) h2
        have c1 : ¬ k = 108 := by omega
        have c2 : ¬ k = 115 := by omega
        have c3 : ¬ k = 109 := by omega
        have c4 : ¬ k = 110 := by omega
        rw [← hM2, ← hM1]
        simp only [Nat.add_zero] at hne ⊢
        simp [up_a, hne, c1, c2, c3, c4]⟩
    refine ⟨M', ?_, g2⟩
    rw [g1]
    congr 1
    omega
/-- the things are set anew -/
theorem goAll_t (d : Nat) {S : am_H} (hv : VH S) : ∀ (k n t : Nat) (M : am_H), t + k = nT S → k < n → frM S M → (∀ j, j < t → M 111 j = S 96 j ∧ M 112 j = -4 ∧ M 113 j = 0 ∧ M 114 j = 0) →
    ∃ M', rM_goAll (d + 1) n 39 [some (vr 7 82), some (vi (nI t))] M = rM_goAll (d + 1) (n - k - 1) 73 [some (vr 7 82), some (vi 0)] M' ∧ frM S M' ∧ (∀ c, c ≠ 111 → c ≠ 112 → c ≠ 113 → c ≠ 114 → M' c = M c) ∧ (∀ j, j < nT S → M' 111 j = S 96 j ∧ M' 112 j = -4 ∧ M' 113 j = 0 ∧ M' 114 j = 0) := by
  have hT := hv.2.2.2.1
  intro k
  induction k with
  | zero =>
    intro n t M hik hn hf h1
    obtain ⟨n, rfl⟩ : ∃ m, n = m + 1 := ⟨n - 1, by omega⟩
    have e : t = nT S := by omega
    subst e
    refine ⟨M, ?_, hf, fun _ _ _ _ _ => rfl, h1⟩
    rw [tM_goAll_39, hf 95 (by omega), hT.1, if_neg (nI_nlt (Nat.le_refl _) (by omega))]
    rfl
  | succ k ih =>
    intro n t M hik hn hf h1
    obtain ⟨n, rfl⟩ : ∃ m, n = m + 1 := ⟨n - 1, by omega⟩
    have hi : t < nT S := by omega
    rw [tM_goAll_39, hf 95 (by omega), hT.1, if_pos (nI_lt hi (by omega)), b_ok (by omega) (by omega), b_ok (by omega) (by omega), b_ok (by omega) (by omega), b_ok (by omega) (by omega), b_ok (by omega) (by omega), hf 96 (by omega), nI_1]
    generalize hM1 : am_up (am_up (am_up (am_up M 111 t (S 96 t)) 112 t (-4)) 113 t 0) 114 t 0 = M1
    have hf1 : frM S M1 := fun c hc => by
      rw [← hM1, up_n (by omega), up_n (by omega), up_n (by omega), up_n (by omega)]
      exact hf c hc
    obtain ⟨M', g1, g2, g3, g4⟩ := ih n (t + 1) M1 (by omega) (by omega) hf1 (fun j hj => by
      by_cases q : j = t
      · subst q
        rw [← hM1]
        simp [up_a]
      · have := h1 j (by omega)
        rw [← hM1]
        simpa [up_a, q] using this)
    refine ⟨M', ?_, g2, fun c e1 e2 e3 e4 => ?_, g4⟩
    · rw [g1]
      congr 1
      omega
    · rw [g3 c e1 e2 e3 e4, ← hM1, up_n e4, up_n e3, up_n e2, up_n e1]
/-- the acts are done again -/
theorem goAll_a (d : Nat) {S : am_H} (hv : VH S) {as : List K_A} (hA : RAm S 0 as) (hok : ∀ a ∈ as, okA S a) (hl : as.length ≤ 40) : ∀ (k n j : Nat) (M : am_H) (K : K_T), j + k = as.length → k < n → frM S M → RM M K → VK S j K →
    ∃ M', rM_goAll (d + 4) n 73 [some (vr 7 82), some (vi (nI j))] M = some (M', none) ∧ frM S M' ∧ RM M' ((as.drop j).foldl (fun K a => kAct S a K) K) := by
  intro k
  induction k with
  | zero =>
    intro n j M K hik hn hf hR hK
    obtain ⟨n, rfl⟩ : ∃ m, n = m + 1 := ⟨n - 1, by omega⟩
    have e : j = as.length := by omega
    refine ⟨M, ?_, hf, ?_⟩
    · rw [tM_goAll_73, hf 100 (by omega), hA.1, if_neg (nI_nlt (by omega) (by omega))]
    · rw [List.drop_of_length_le (by omega)]
      exact hR
  | succ k ih =>
    intro n j M K hik hn hf hR hK
    obtain ⟨n, rfl⟩ : ∃ m, n = m + 1 := ⟨n - 1, by omega⟩
    have hj : j < as.length := by omega
    obtain ⟨b1, b2, b3⟩ := hA.2 j as[j] (List.getElem?_eq_getElem hj)
    simp only [Nat.mul_zero, Nat.zero_add] at b1 b2 b3
    have hoka : okA S as[j] := hok _ (List.getElem_mem hj)
    have hoka' : okA M as[j] := by
      unfold okA at *
      rw [hf.eP, hf.eD, hf.eT]
      exact hoka
    have hvM := hf.vh hv
    have hKM : VK M j K := VKg_congr hf.eP hf.eR hf.eT hK
    obtain ⟨M1, b, g1, g2, g3⟩ := gM_doAct_ok d hvM hR hKM (by omega) hoka'
    rw [tM_goAll_73, hf 100 (by omega), hA.1, if_pos (nI_lt hj (by omega)), b_ok (by omega) (by omega), b_ok (by omega) (by omega), b_ok (by omega) (by omega), hf 101 (by omega), hf 102 (by omega), hf 103 (by omega), b1, b2, b3, g1, r1_ok, nI_1]
    rw [kAct_congr (fun c h1 h2 => hf c (by omega))] at g2
    obtain ⟨M', e1, e2, e3⟩ := ih n (j + 1) M1 (kAct S as[j] K) (by omega) (by omega) (hf.tr g3) g2 (VK_act hv hK hoka (by omega))
    refine ⟨M', e1, e2, ?_⟩
    rw [List.drop_eq_getElem_cons hj]
    exact e3
/-- ALL ACTS DONE AGAIN -/
theorem gM_goAll_ok (d : Nat) {S : am_H} (hv : VH S) {as : List K_A} (hA : RAm S 0 as) (hok : ∀ a ∈ as, okA S a) (hl : as.length ≤ 40) :
    ∃ S', am_g (d + 5) 123 [vr 7 82] S = some (S', none) ∧ frM S S' ∧ RM S' (kAll S as) := by
  have hP := hv.2.2.1
  have hT := hv.2.2.2.1
  obtain ⟨M1, g1, g2, g3, g4⟩ := goAll_p (d + 3) hv (nP S) 999999 0 S (by omega) (by omega) (frM.rf S) (fun j hj => by omega) trivial
  obtain ⟨M2, e1, e2, e3, e4⟩ := goAll_t (d + 3) hv (nT S) (999999 - nP S - 1) 0 M1 (by omega) (by omega) g2 (fun j hj => by omega)
  have hR : RM M2 (kIni S) := by
    refine ⟨fun j hj => ?_, fun t ht => ?_, ?_⟩
    · rw [e2.eP] at hj
      obtain ⟨b0, b1, b2, b5⟩ := g3 j hj
      rw [e3 108 (by omega) (by omega) (by omega) (by omega), e3 109 (by omega) (by omega) (by omega) (by omega), e3 110 (by omega) (by omega) (by omega) (by omega), e3 115 (by omega) (by omega) (by omega) (by omega)]
      refine ⟨b0, b1, b2, ?_⟩
      show M1 115 j = nI (cV j (vIni S (nP S)))
      rw [vIni_c, if_pos hj]
      exact b5
    · rw [e2.eT] at ht
      exact e4 t ht
    · refine vM_congr (S := M1) (fun c j q1 q2 _ => ?_) g4
      rw [e3 c (by omega) (by omega) (by omega) (by omega)]
  obtain ⟨M3, f1, f2, f3⟩ := goAll_a d hv hA hok hl as.length (999999 - nP S - 1 - nT S - 1) 0 M2 (kIni S) (by omega) (by omega) e2 hR (VK_ini hv)
  refine ⟨M3, ?_, f2, ?_⟩
  · rw [gM_goAll, ← nI_0]
    rw [← nI_0] at g1 e1
    rw [g1, e1, f1]
  · exact f3
end
section
/-! THE CLASS'S COURSE -/
def vC (k : Nat) (h : am_H) : List K_V → Prop
  | [] => True
  | (w, r, a, b) :: l => h (k + 9) l.length = nI w ∧ h (k + 10) l.length = r ∧ h (k + 11) l.length = a ∧ h (k + 12) l.length = b ∧ vC k h l
/-- the place of the latest visit of a person -/
def vLa (i : Nat) : List K_V → Nat
  | [] => 0
  | (w, _) :: l => if w = i then l.length else vLa i l
/-- the house that a course at k goes by, at o: as S has it -/
def EH (k o : Nat) (h S : am_H) : Prop :=
  (h k 0 = nI o ∧ o + 15 ≤ k ∧ k ≤ 45) ∧ (h o 15 = nI (nD S) ∧ h o 16 = nI (nP S) ∧ h o 17 = nI (nT S) ∧ h o 18 = S 99 0) ∧
  (∀ r, r < nR S → (if nI r = h k 1 then 12 else h (o + 4) r) = hOf S r ∧ (if nI r = h k 1 then 12 else h (o + 5) r) = (12 * S 85 r) / S 86 r) ∧
  (∀ e, e < nD S → h (o + 6) e = S 89 e ∧ h (o + 7) e = S 90 e ∧ h (o + 8) e = S 91 e) ∧
  (∀ i, i < nP S → h (o + 9) i = S 93 i ∧ h (o + 10) i = S 94 i) ∧
  ∀ t, t < nT S → h (o + 11) t = S 96 t
/-- the class's course at k says K -/
def RC (k : Nat) (h S : am_H) (K : K_T) : Prop :=
  (∀ i, i < nP S → h (k + 1) i = K.1 0 i ∧ h (k + 2) i = K.1 1 i ∧ h (k + 3) i = K.1 2 i ∧ h (k + 4) i = nI (vLa i K.2)) ∧
  (∀ t, t < nT S → h (k + 5) t = K.1 3 t ∧ h (k + 6) t = K.1 4 t ∧ h (k + 7) t = K.1 5 t ∧ h (k + 8) t = K.1 6 t) ∧ h k 14 = nI K.2.length ∧ vC k h K.2
/-- the course's own cells alone have changed, and of the course's object only how many visits there are -/
def frC (k : Nat) (h h' : am_H) : Prop := (∀ c, ¬ (k ≤ c ∧ c ≤ k + 12) → h' c = h c) ∧ ∀ j, j ≠ 14 → h' k j = h k j
theorem frC.rf (k : Nat) (h : am_H) : frC k h h := ⟨fun _ _ => rfl, fun _ _ => rfl⟩
theorem frC.tr {k : Nat} {h h' h'' : am_H} (a : frC k h h') (b : frC k h' h'') : frC k h h'' := ⟨fun c hc => (b.1 c hc).trans (a.1 c hc), fun j hj => (b.2 j hj).trans (a.2 j hj)⟩
theorem frC.eh {k o : Nat} {h h' S : am_H} (f : frC k h h') (e : EH k o h S) : EH k o h' S := by
  obtain ⟨⟨h0, h1, h2⟩, h3⟩ := e
  unfold EH
  rw [f.2 0 (by omega), f.2 1 (by omega), f.1 o (by omega), f.1 (o + 4) (by omega), f.1 (o + 5) (by omega), f.1 (o + 6) (by omega), f.1 (o + 7) (by omega), f.1 (o + 8) (by omega), f.1 (o + 9) (by omega), f.1 (o + 10) (by omega), f.1 (o + 11) (by omega)]
  exact ⟨⟨h0, h1, h2⟩, h3⟩
theorem EH.o {k o : Nat} {h S : am_H} (e : EH k o h S) : (h k 0).toNatClampNeg = o := by
  rw [e.1.1, nI_clamp (by have := e.1.2; omega)]
theorem gK_hourTicksOf_ok (d : Nat) {k o : Nat} {h S : am_H} (e : EH k o h S) (hR : nR S ≤ 6) {r : Nat} (hr : r < nR S) : am_g (d + 1) 12 [vr 1 k, vi (nI r)] h = some (h, some (hOf S r)) := by
  have := (e.2.2.1 r hr).1
  rw [gK_hourTicksOf, e.o]
  by_cases q : nI r = h k 1
  · rw [if_pos q] at this ⊢
    rw [this]
  · rw [if_neg q] at this ⊢
    rw [b_ok (by omega) (by omega), this]
theorem gK_partsOfTickIn_ok (d : Nat) {k o : Nat} {h S : am_H} (e : EH k o h S) (hR : nR S ≤ 6) {r : Nat} (hr : r < nR S) : am_g (d + 1) 13 [vr 1 k, vi (nI r)] h = some (h, some ((12 * S 85 r) / S 86 r)) := by
  have := (e.2.2.1 r hr).2
  rw [gK_partsOfTickIn, e.o]
  by_cases q : nI r = h k 1
  · rw [if_pos q] at this
    rw [if_pos q, ← this]
  · rw [if_neg q] at this ⊢
    rw [b_ok (by omega) (by omega), this]
theorem gH_isDoorOf_ok (d : Nat) {o : Nat} {h S : am_H} (he : ∀ e, e < nD S → h (o + 6) e = S 89 e ∧ h (o + 7) e = S 90 e ∧ h (o + 8) e = S 91 e) (hD : nD S ≤ 8) {x : Nat} (hx : x < nD S) (r : Int32) : am_g (d + 1) 29 [vr 2 o, vi (nI x), vi r] h = some (h, some (yn (bes S x r))) := by
  obtain ⟨h1, h2, -⟩ := he x hx
  rw [gH_isDoorOf, b_ok (by omega) (by omega), b_ok (by omega) (by omega), h1, h2]
  unfold yn
  by_cases e1 : S 89 x = r
  · simp [e1]
  · by_cases e2 : S 90 x = r
    · simp [e2]
    · simp [e1, e2]
theorem gH_behind_ok (d : Nat) {o : Nat} {h S : am_H} (he : ∀ e, e < nD S → h (o + 6) e = S 89 e ∧ h (o + 7) e = S 90 e ∧ h (o + 8) e = S 91 e) (hD : nD S ≤ 8) {x : Nat} (hx : x < nD S) (r : Int32) : am_g (d + 1) 30 [vr 2 o, vi (nI x), vi r] h = some (h, some (byd S x r)) := by
  obtain ⟨h1, h2, -⟩ := he x hx
  rw [gH_behind, b_ok (by omega) (by omega), b_ok (by omega) (by omega), b_ok (by omega) (by omega), h1, h2]
  unfold byd
  by_cases e1 : S 89 x = r <;> simp [e1]
theorem gH_leadTicks_ok (d : Nat) {o : Nat} {h S : am_H} (he : ∀ e, e < nD S → h (o + 6) e = S 89 e ∧ h (o + 7) e = S 90 e ∧ h (o + 8) e = S 91 e) (hD : nD S ≤ 8) {x : Nat} (hx : x < nD S) (r : Int32) : am_g (d + 1) 31 [vr 2 o, vi (nI x), vi r] h = some (h, some (12 * led S x r)) := by
  obtain ⟨h1, h2, h3⟩ := he x hx
  rw [gH_leadTicks, b_ok (by omega) (by omega), b_ok (by omega) (by omega), b_ok (by omega) (by omega), h1, h3]
  unfold led
  by_cases e1 : S 89 x = r <;> simp [e1, Int32.mul_comm]
def oC (k i T t : Nat) (x : Int32) (M : am_H) : am_H := va_up M (k + 8) (fun j => if t ≤ j ∧ j < T ∧ M (k + 6) j = nI i then M (k + 8) j + 144 * x else M (k + 8) j)
theorem pass_loop (d : Nat) {k o i T : Nat} (x : Int32) (hok : o + 15 ≤ k) (hk : k ≤ 45) (hT : T ≤ 5) : ∀ (m n t : Nat) (M : am_H), t + m = T → m < n → M k 0 = nI o → M o 17 = nI T →
    rK_pass d n 37 [some (vr 1 k), some (vi (nI i)), some (vi x), some (vi (nI t))] M = some (oC k i T t x M, none) := by
  intro m
  induction m with
  | zero =>
    intro n t M htk hn h1 h2
    obtain ⟨n, rfl⟩ : ∃ m, n = m + 1 := ⟨n - 1, by omega⟩
    have ht : t = T := by omega
    subst ht
    rw [tK_pass_37, h1, nI_clamp (by omega), h2, if_neg (nI_nlt (Nat.le_refl _) (by omega))]
    have : oC k i t t x M = M := by
      funext c j
      unfold oC va_up
      split
      · rename_i e; subst e
        dsimp only
        rw [if_neg (by omega)]
      · rfl
    rw [this]
  | succ m ih =>
    intro n t M htk hn h1 h2
    obtain ⟨n, rfl⟩ : ∃ m, n = m + 1 := ⟨n - 1, by omega⟩
    have ht : t < T := by omega
    rw [tK_pass_37, h1, nI_clamp (by omega), h2, if_pos (nI_lt ht (by omega)), b_ok (by omega) (by omega), nI_1]
    by_cases e : M (k + 6) t = nI i
    · rw [if_pos e, b_ok (by omega) (by omega), b_ok (by omega) (by omega), ih n (t + 1) _ (by omega) (by omega) (by rw [up_n (by omega)]; exact h1) (by rw [up_n (by omega)]; exact h2)]
      congr 2
      funext c j
      unfold oC
      by_cases q : c = k + 8
      · subst q
        simp only [va_up, if_true, up_a, true_and]
        rw [if_neg (show ¬ (k + 6 = k + 8 ∧ j = t) by omega)]
        by_cases q1 : j = t
        · subst q1
          rw [if_pos rfl, if_neg (show ¬ (j + 1 ≤ j ∧ _) by omega), if_pos ⟨Nat.le_refl _, ht, e⟩, Int32.mul_comm]
        · rw [if_neg q1]
          by_cases q2 : t ≤ j ∧ j < T ∧ M (k + 6) j = nI i
          · rw [if_pos q2, if_pos ⟨by omega, q2.2⟩]
          · rw [if_neg q2, if_neg (fun z => q2 ⟨by omega, z.2⟩)]
      · simp [va_up, q, up_a]
    · rw [if_neg e, ih n (t + 1) M (by omega) (by omega) h1 h2]
      congr 2
      funext c j
      unfold oC
      by_cases q : c = k + 8
      · subst q
        simp only [va_up, if_true]
        by_cases q2 : t ≤ j ∧ j < T ∧ M (k + 6) j = nI i
        · have : j ≠ t := fun z => e (z ▸ q2.2.2)
          rw [if_pos q2, if_pos ⟨by omega, q2.2⟩]
        · rw [if_neg q2, if_neg (fun z => q2 ⟨by omega, z.2⟩)]
      · simp [va_up, q]
theorem vC_congr {k : Nat} {h h' : am_H} : ∀ {l : List K_V}, (∀ c j, k + 9 ≤ c → c ≤ k + 12 → j < l.length → h' c j = h c j) → vC k h l → vC k h' l := by
  intro l
  induction l with
  | nil => intro _ _; trivial
  | cons v l ih =>
    intro hh hv
    obtain ⟨w, r, a, b⟩ := v
    obtain ⟨h1, h2, h3, h4, h5⟩ := hv
    have hl : l.length < ((w, r, a, b) :: l).length := by simp
    exact ⟨by rw [hh _ _ (by omega) (by omega) hl]; exact h1, by rw [hh _ _ (by omega) (by omega) hl]; exact h2, by rw [hh _ _ (by omega) (by omega) hl]; exact h3, by rw [hh _ _ (by omega) (by omega) hl]; exact h4, ih (fun c j q1 q2 q3 => hh c j q1 q2 (by simp; omega)) h5⟩
theorem vLa_lt {i : Nat} : ∀ {l : List K_V}, 1 ≤ cV i l → vLa i l < l.length := by
  intro l
  induction l with
  | nil => intro h; simp [cV] at h
  | cons v l ih =>
    intro h
    obtain ⟨w, r⟩ := v
    unfold vLa
    by_cases e : w = i
    · simp [e]
    · have : 1 ≤ cV i l := by simpa [cV, e] using h
      have := ih this
      simp [e]; omega
theorem vC_set {k : Nat} {h h' : am_H} {i : Nat} {x : Int32} : ∀ {l : List K_V}, 1 ≤ cV i l → vC k h l → (∀ c j, k + 9 ≤ c → c ≤ k + 11 → h' c j = h c j) → (∀ j, h' (k + 12) j = if j = vLa i l then x else h (k + 12) j) → vC k h' (vSet i x l) := by
  intro l
  induction l with
  | nil => intro h; simp [cV] at h
  | cons v l ih =>
    intro hc hv h1 h2
    obtain ⟨w, r, a, b⟩ := v
    obtain ⟨g1, g2, g3, g4, g5⟩ := hv
    unfold vSet
    by_cases e : w = i
    · subst e
      rw [if_pos rfl]
      have hla : vLa w ((w, r, a, b) :: l) = l.length := by simp [vLa]
      rw [hla] at h2
      refine ⟨by rw [h1 _ _ (by omega) (by omega)]; exact g1, by rw [h1 _ _ (by omega) (by omega)]; exact g2, by rw [h1 _ _ (by omega) (by omega)]; exact g3, by rw [h2, if_pos rfl], vC_congr (h := h) (fun c j q1 q2 q3 => ?_) g5⟩
      by_cases q : c = k + 12
      · rw [q, h2, if_neg (by omega)]
      · exact h1 c j q1 (by omega)
    · rw [if_neg e]
      have hla : vLa i ((w, r, a, b) :: l) = vLa i l := by simp [vLa, e]
      have hcl : cV i ((w, r, a, b) :: l) = cV i l := by simp [cV, e]
      rw [hla] at h2
      rw [hcl] at hc
      have hlt := vLa_lt hc
      refine ⟨by rw [vSet_l, h1 _ _ (by omega) (by omega)]; exact g1, by rw [vSet_l, h1 _ _ (by omega) (by omega)]; exact g2, by rw [vSet_l, h1 _ _ (by omega) (by omega)]; exact g3, ?_, ih hc g5 h1 h2⟩
      rw [vSet_l, h2, if_neg (by omega)]
      exact g4
theorem vLa_set (i j : Nat) (x : Int32) : ∀ l, vLa i (vSet j x l) = vLa i l := by
  intro l
  induction l with
  | nil => rfl
  | cons v l ih =>
    obtain ⟨w, r, a, b⟩ := v
    unfold vSet
    split
    · rfl
    · simp [vLa, ih, vSet_l]
theorem gK_pass_ok (d : Nat) {k o : Nat} {h S : am_H} {K : K_T} {B A : Int} {n : Nat} (hv : VH S) (e : EH k o h S) (hR : RC k h S K) (hK : VKg S B A n K) (hn : n ≤ 40) {i : Nat} (hi : i < nP S) (x : Int32) :
    ∃ h', am_g (d + 2) 7 [vr 1 k, vi (nI i), vi x] h = some (h', none) ∧ RC k h' S (kBy S i x K) ∧ frC k h h' := by
  have hP := hv.2.2.1.2.2
  have hT := hv.2.2.2.1
  obtain ⟨r1, r2, r3, r4⟩ := hR
  obtain ⟨a1, a2, a3, a4⟩ := r1 i hi
  obtain ⟨⟨r, hr, hri⟩, -, -, hc1, hc2⟩ := hK.1 i hi
  have hR6 := hv.1.2.2
  have hlen := hK.2.2.1
  have hla := vLa_lt hc1
  obtain ⟨e1, e2, e3⟩ := e.1
  have hrm : rmOf K i = r := by unfold rmOf; rw [hri, nI_rm (by omega)]
  have q4 : ∀ y z, (am_up (am_up h (k + 2) i y) (k + 3) i z) (k + 4) i = nI (vLa i K.2) := fun y z => by rw [up_n (by omega), up_n (by omega)]; exact a4
  have q3 : ∀ y, (am_up h (k + 2) i y) (k + 3) i = h (k + 3) i := fun y => by rw [up_n (by omega)]
  have q2 : ∀ y z, (am_up (am_up h (k + 2) i y) (k + 3) i z) (k + 2) i = y := fun y z => by rw [up_n (by omega), up_s]
  have h1 : am_g (d + 2) 7 [vr 1 k, vi (nI i), vi x] h = rK_pass (d + 1) 999999 37 [some (vr 1 k), some (vi (nI i)), some (vi x), some (vi (nI 0))] (am_up (am_up (am_up h (k + 2) i (h (k + 2) i + x * hOf S r)) (k + 3) i (h (k + 3) i + x)) (k + 12) (vLa i K.2) (h (k + 2) i + x * hOf S r)) := by
    rw [gK_pass, b_ok (by omega) (by omega), b_ok (by omega) (by omega), a1, hri, gK_hourTicksOf_ok d e hR6 hr, r1_ok, b_ok (by omega) (by omega), b_ok (by omega) (by omega), b_ok (by omega) (by omega), b_ok (by omega) (by omega), b_ok (by omega) (by omega), q4, b_ok (by omega) (by omega), q3, q2, nI_0]
  have h2 := pass_loop (d + 1) (i := i) x e2 e3 hT.2 (nT S) 999999 0 (am_up (am_up (am_up h (k + 2) i (h (k + 2) i + x * hOf S r)) (k + 3) i (h (k + 3) i + x)) (k + 12) (vLa i K.2) (h (k + 2) i + x * hOf S r)) (by omega) (by omega) (by rw [up_n (by omega), up_n (by omega), up_n (by omega)]; exact e1) (by rw [up_n (by omega), up_n (by omega), up_n (by omega)]; exact e.2.1.2.2.1)
  rw [h1, h2]
  generalize hH : oC k i (nT S) 0 x (am_up (am_up (am_up h (k + 2) i (h (k + 2) i + x * hOf S r)) (k + 3) i (h (k + 3) i + x)) (k + 12) (vLa i K.2) (h (k + 2) i + x * hOf S r)) = h'
  have f2 : ∀ j, h' (k + 2) j = if j = i then h (k + 2) i + x * hOf S r else h (k + 2) j := fun j => by rw [← hH]; simp [up_a, oC, va_up]
  have f3 : ∀ j, h' (k + 3) j = if j = i then h (k + 3) i + x else h (k + 3) j := fun j => by rw [← hH]; simp [up_a, oC, va_up]
  have f8 : ∀ j, j < nT S → h' (k + 8) j = if h (k + 6) j = nI i then h (k + 8) j + 144 * x else h (k + 8) j := fun j hj => by rw [← hH]; simp [up_a, oC, va_up, hj]
  have f12 : ∀ j, h' (k + 12) j = if j = vLa i K.2 then h (k + 2) i + x * hOf S r else h (k + 12) j := fun j => by rw [← hH]; simp [up_a, oC, va_up]
  have fo : ∀ c, c ≠ k + 2 → c ≠ k + 3 → c ≠ k + 8 → c ≠ k + 12 → h' c = h c := fun c g1 g2 g3 g4 => by
    funext j
    rw [← hH]; simp [up_a, oC, va_up, g1, g2, g3, g4]
  have hk0 : h' k = h k := fo k (by omega) (by omega) (by omega) (by omega)
  refine ⟨h', rfl, ⟨fun j hj => ?_, fun t ht => ?_, ?_, ?_⟩, ⟨fun c hc => fo c (by omega) (by omega) (by omega) (by omega), fun j _ => by rw [hk0]⟩⟩
  · obtain ⟨b1, b2, b3, b4⟩ := r1 j hj
    rw [fo (k + 1) (by omega) (by omega) (by omega) (by omega), fo (k + 4) (by omega) (by omega) (by omega) (by omega), f2, f3]
    refine ⟨by simp [kBy, b1], ?_, ?_, by simp [kBy, vLa_set, b4]⟩
    · by_cases q : j = i
      · subst q; simp [kBy, a2, hrm]
      · simp [kBy, q, b2]
    · by_cases q : j = i
      · subst q; simp [kBy, a3]
      · simp [kBy, q, b3]
  · obtain ⟨b5, b6, b7, b8⟩ := r2 t ht
    rw [fo (k + 5) (by omega) (by omega) (by omega) (by omega), fo (k + 6) (by omega) (by omega) (by omega) (by omega), fo (k + 7) (by omega) (by omega) (by omega) (by omega), f8 t ht]
    refine ⟨by simp [kBy, b5], by simp [kBy, b6], by simp [kBy, b7], ?_⟩
    by_cases q : K.1 4 t = nI i
    · simp [kBy, b6, b8, q]
    · simp [kBy, b6, b8, q]
  · rw [hk0]
    show h k 14 = nI (vSet i _ K.2).length
    rw [vSet_l]
    exact r3
  · have e0 : (kBy S i x K).2 = vSet i (K.1 1 i + x * hOf S r) K.2 := by simp [kBy, hrm]
    rw [e0]
    refine vC_set (h := h) hc1 r4 (fun c j g1 g2 => ?_) (fun j => ?_)
    · rw [fo c (by omega) (by omega) (by omega) (by omega)]
    · rw [f12, a2]
end
section
theorem gK_enter_raw (d : Nat) {k i V : Nat} {h : am_H} (hi : i < 4) (hV : V < 44) (h14 : h k 14 = nI V) (x : Int32) : am_g (d + 1) 9 [vr 1 k, vi (nI i), vi x] h =
    some (am_up (am_up (am_up (am_up (am_up (am_up (am_up h (k + 1) i x) (k + 9) V (nI i)) (k + 10) V x) (k + 11) V (h (k + 2) i)) (k + 12) V (h (k + 2) i)) (k + 4) i (nI V)) k 14 (nI (V + 1)), none) := by
  have hlt : nI V < 44 := nI_lt (b := 44) hV (by omega)
  rw [gK_enter]
  simp (disch := omega) only [up_n, h14, b_ok, nI_1]
  rw [if_pos hlt]
/-- a new visit -/
theorem enter_rc {k i : Nat} {h S h' : am_H} {K : K_T} {x : Int32} (hR : RC k h S K) (hh : am_up (am_up (am_up (am_up (am_up (am_up (am_up h (k + 1) i x) (k + 9) K.2.length (nI i)) (k + 10) K.2.length x) (k + 11) K.2.length (h (k + 2) i)) (k + 12) K.2.length (h (k + 2) i)) (k + 4) i (nI K.2.length)) k 14 (nI (K.2.length + 1)) = h') (hi : i < nP S) : RC k h' S (kIn i x K) := by
  obtain ⟨r1, r2, r3, r4⟩ := hR
  obtain ⟨a1, a2, a3, a4⟩ := r1 i hi
  refine ⟨fun j hj => ?_, fun t ht => ?_, ?_, ?_⟩
  · obtain ⟨b1, b2, b3, b4⟩ := r1 j hj
    rw [← hh]
    by_cases q : j = i
    · subst q; simp [up_a, kIn, vLa, a2, a3]
    · have q' : ¬ i = j := fun z => q z.symm
      simp [up_a, kIn, vLa, q, q', b1, b2, b3, b4]
  · have := r2 t ht
    rw [← hh]
    simpa [up_a, kIn] using this
  · rw [← hh]; simp [up_a, kIn]
  · rw [← hh]
    refine ⟨by simp [up_a], by simp [up_a], by simp [up_a, a2], by simp [up_a, a2], vC_congr (h := h) (fun c j q1 q2 q3 => ?_) r4⟩
    have c1 : ¬ j = K.2.length := by omega
    have c2 : ¬ c = k := by omega
    have c3 : ¬ c = k + 4 := by omega
    have c4 : ¬ c = k + 1 := by omega
    simp [up_a, c1, c2, c3, c4]
theorem enter_fr {k i V : Nat} {h h' : am_H} {x y z u v w : Int32} (hh : am_up (am_up (am_up (am_up (am_up (am_up (am_up h (k + 1) i x) (k + 9) V y) (k + 10) V x) (k + 11) V z) (k + 12) V u) (k + 4) i v) k 14 w = h') : frC k h h' := by
  refine ⟨fun c hc => ?_, fun j hj => ?_⟩
  · rw [← hh, up_n (by omega), up_n (by omega), up_n (by omega), up_n (by omega), up_n (by omega), up_n (by omega), up_n (by omega)]
  · rw [← hh]
    simp [up_a, hj]
theorem gK_cross_ok (d : Nat) {k o : Nat} {h S : am_H} {K : K_T} {B A : Int} {n : Nat} (hv : VH S) (e : EH k o h S) (hR : RC k h S K) (hK : VKg S B A n K) (hn : n < 40) {i x : Nat} (hi : i < nP S) (hx : x < nD S) :
    ∃ h', am_g (d + 3) 8 [vr 1 k, vi (nI i), vi (nI x)] h = some (h', none) ∧ RC k h' S (kDo S i x (kBy S i (S 99 0) K)) ∧ frC k h h' := by
  have hP := hv.2.2.1.2.2
  have hD := hv.2.1.2
  have hlen := hK.2.2.1
  obtain ⟨h1, g1, hR1, hf1⟩ := gK_pass_ok d hv e hR hK (by omega) hi (S 99 0)
  have e1 := hf1.eh e
  obtain ⟨e11, e12, e13⟩ := e1.1
  have hk0 : (kBy S i (S 99 0) K).1 0 i = K.1 0 i := by simp [kBy]
  obtain ⟨c1, c2, c3, c4⟩ := hR1.1 i hi
  rw [gK_cross, e.o, e.2.1.2.2.2, g1, r0_ok, b_ok (by omega) (by omega), b_ok (by omega) (by omega), e1.o, gH_leadTicks_ok (d + 1) e1.2.2.2.1 hD hx, r1_ok, b_ok (by omega) (by omega), b_ok (by omega) (by omega), c1, c2]
  generalize hH2 : am_up h1 (k + 2) i ((kBy S i (S 99 0) K).1 1 i + 12 * led S x ((kBy S i (S 99 0) K).1 0 i)) = h2
  have hf2 : frC k h1 h2 := ⟨fun c hc => by rw [← hH2, up_n (by omega)], fun j _ => by rw [← hH2, up_n (by omega)]⟩
  have e2 := hf2.eh e1
  have d1 : h2 (k + 1) i = (kBy S i (S 99 0) K).1 0 i := by rw [← hH2, up_n (by omega)]; exact c1
  rw [e2.o, d1, gH_behind_ok (d + 1) e2.2.2.2.1 hD hx, r1_ok]
  have hR2 : RC k h2 S (am_up (kBy S i (S 99 0) K).1 1 i ((kBy S i (S 99 0) K).1 1 i + 12 * led S x ((kBy S i (S 99 0) K).1 0 i)), (kBy S i (S 99 0) K).2) := by
    refine ⟨fun j hj => ?_, fun t ht => ?_, ?_, ?_⟩
    · obtain ⟨b1, b2, b3, b4⟩ := hR1.1 j hj
      rw [← hH2]
      by_cases q : j = i
      · subst q; simp [up_a, b1, b3, b4]
      · simp [up_a, q, b1, b2, b3, b4]
    · have := hR1.2.1 t ht
      rw [← hH2]
      simpa [up_a] using this
    · rw [← hH2, up_n (by omega)]; exact hR1.2.2.1
    · refine vC_congr (h := h1) (fun c j q1 q2 q3 => ?_) hR1.2.2.2
      rw [← hH2, up_n (by omega)]
  have hl2 : (kBy S i (S 99 0) K).2.length = K.2.length := by show (vSet i _ K.2).length = _; rw [vSet_l]
  rw [gK_enter_raw (d + 1) (V := (kBy S i (S 99 0) K).2.length) (by omega) (by omega) hR2.2.2.1, r0_ok]
  generalize hH3 : am_up (am_up (am_up (am_up (am_up (am_up (am_up h2 (k + 1) i (byd S x ((kBy S i (S 99 0) K).1 0 i))) (k + 9) (kBy S i (S 99 0) K).2.length (nI i)) (k + 10) (kBy S i (S 99 0) K).2.length (byd S x ((kBy S i (S 99 0) K).1 0 i))) (k + 11) (kBy S i (S 99 0) K).2.length (h2 (k + 2) i)) (k + 12) (kBy S i (S 99 0) K).2.length (h2 (k + 2) i)) (k + 4) i (nI (kBy S i (S 99 0) K).2.length)) k 14 (nI ((kBy S i (S 99 0) K).2.length + 1)) = h3
  exact ⟨h3, rfl, enter_rc hR2 hH3 hi, (hf1.tr hf2).tr (enter_fr hH3)⟩
/-- the two ways to say how old a thing grows -/
theorem old_eq {S : am_H} (hv : VH S) {r : Nat} (hr : r < nR S) (x : Int32) : x * ((12 * S 85 r) / S 86 r) = oBy S r x := by
  obtain ⟨p, q, o, hp, hq, -, h1, h2, -⟩ := hv.2.2.2.2.2.1 r hr
  unfold oBy
  rw [h1, h2]
  have key : (12 : Int32) * nI p / nI q = nI p * (12 / nI q) := by
    have hp' : p = 1 ∨ p = 2 ∨ p = 3 ∨ p = 4 := by omega
    have hq' : q = 1 ∨ q = 2 ∨ q = 3 ∨ q = 4 := by omega
    rcases hp' with rfl | rfl | rfl | rfl <;> rcases hq' with rfl | rfl | rfl | rfl <;> decide
  rw [key, Int32.mul_assoc]
theorem gK_wornAt_ok (d : Nat) {k o : Nat} {h S : am_H} {K : K_T} (hv : VH S) (e : EH k o h S) (hR : RC k h S K) {t r : Nat} (ht : t < nT S) (hr : r < nR S) (hl : K.1 3 t = nI r) (x : Int32) :
    am_g (d + 2) 14 [vr 1 k, vi (nI t), vi x] h = some (h, some (K.1 6 t + oBy S r (x - K.1 5 t))) := by
  have hT := hv.2.2.2.1.2
  have hR6 := hv.1.2.2
  obtain ⟨b5, b6, b7, b8⟩ := hR.2.1 t ht
  rw [gK_wornAt, b_ok (by omega) (by omega), b5, hl, if_neg (m4_ne (by omega)), b_ok (by omega) (by omega), b_ok (by omega) (by omega), b_ok (by omega) (by omega), b5, hl, gK_partsOfTickIn_ok d e hR6 hr, r1_ok, b7, b8, old_eq hv hr]
theorem gK_canTake_ok (d : Nat) {k : Nat} {h S : am_H} {K : K_T} (hv : VH S) (hR : RC k h S K) {i t : Nat} (hi : i < nP S) (ht : t < nT S) : am_g (d + 1) 5 [vr 1 k, vi (nI i), vi (nI t)] h = some (h, some (yn (K.1 3 t = K.1 0 i ∧ ¬ K.1 1 i < K.1 5 t))) := by
  have hP := hv.2.2.1.2.2
  have hT := hv.2.2.2.1.2
  obtain ⟨a1, a2, a3, a4⟩ := hR.1 i hi
  obtain ⟨b5, b6, b7, b8⟩ := hR.2.1 t ht
  rw [gK_canTake, b_ok (by omega) (by omega), b_ok (by omega) (by omega), b_ok (by omega) (by omega), b_ok (by omega) (by omega), a1, a2, b5, b7]
  unfold yn
  by_cases q1 : K.1 3 t = K.1 0 i
  · by_cases q2 : K.1 1 i < K.1 5 t <;> simp [q1, q2]
  · simp [q1]
theorem gK_canPut_ok (d : Nat) {k : Nat} {h S : am_H} {K : K_T} (hv : VH S) (hR : RC k h S K) {i t : Nat} (ht : t < nT S) : am_g (d + 1) 6 [vr 1 k, vi (nI i), vi (nI t)] h = some (h, some (yn (K.1 4 t = nI i))) := by
  have hT := hv.2.2.2.1.2
  obtain ⟨b5, b6, b7, b8⟩ := hR.2.1 t ht
  rw [gK_canPut, b_ok (by omega) (by omega), b6]
  unfold yn
  by_cases q1 : K.1 4 t = nI i <;> simp [q1]
theorem gK_canGo_ok (d : Nat) {k o : Nat} {h S : am_H} {K : K_T} (hv : VH S) (e : EH k o h S) (hR : RC k h S K) {i x : Nat} (hi : i < nP S) (hx : x < nD S) : am_g (d + 2) 4 [vr 1 k, vi (nI i), vi (nI x)] h = some (h, some (yn (bes S x (K.1 0 i)))) := by
  have hP := hv.2.2.1.2.2
  have hD := hv.2.1.2
  obtain ⟨a1, a2, a3, a4⟩ := hR.1 i hi
  rw [gK_canGo, b_ok (by omega) (by omega), e.o, a1, gH_isDoorOf_ok d e.2.2.2.1 hD hx, r1_ok, if_pos yn_b]
theorem gK_pick_ok (d : Nat) {k o : Nat} {h S : am_H} {K : K_T} {B A : Int} {n : Nat} (hv : VH S) (e : EH k o h S) (hR : RC k h S K) (hK : VKg S B A n K) {i t : Nat} (hi : i < nP S) (ht : t < nT S) (hc : K.1 3 t = K.1 0 i ∧ ¬ K.1 1 i < K.1 5 t) :
    ∃ h', am_g (d + 3) 10 [vr 1 k, vi (nI i), vi (nI t)] h = some (h', none) ∧ RC k h' S (kTk S i t K) ∧ frC k h h' := by
  have hP := hv.2.2.1.2.2
  have hT := hv.2.2.2.1.2
  have hR6 := hv.1.2.2
  obtain ⟨r1, r2, r3, r4⟩ := id hR
  obtain ⟨a1, a2, a3, a4⟩ := r1 i hi
  obtain ⟨b5, b6, b7, b8⟩ := r2 t ht
  obtain ⟨⟨r, hr, hri⟩, -⟩ := hK.1 i hi
  have hrm : rmOf K i = r := by unfold rmOf; rw [hri, nI_rm (by omega)]
  rw [gK_pick, b_ok (by omega) (by omega), a2, gK_wornAt_ok d hv e hR ht hr (hc.1.trans hri), r1_ok, b_ok (by omega) (by omega), b_ok (by omega) (by omega), b_ok (by omega) (by omega)]
  generalize hH : am_up (am_up (am_up h (k + 8) t (K.1 6 t + oBy S r (K.1 1 i - K.1 5 t))) (k + 5) t (-4)) (k + 6) t (nI i) = h'
  have hk0 : h' k = h k := by rw [← hH, up_n (by omega), up_n (by omega), up_n (by omega)]
  refine ⟨h', rfl, ?_, fun c hc => by rw [← hH, up_n (by omega), up_n (by omega), up_n (by omega)], fun j _ => by rw [hk0]⟩
  unfold kTk
  rw [if_pos hc, hrm]
  refine ⟨fun j hj => ?_, fun t' ht' => ?_, by rw [hk0]; exact r3, ?_⟩
  · have := r1 j hj
    rw [← hH]
    simpa [up_a] using this
  · obtain ⟨c3, c4, c5, c6⟩ := r2 t' ht'
    rw [← hH]
    by_cases q : t' = t
    · subst q; simp [up_a, b7]
    · simp [up_a, q, c3, c4, c5, c6]
  · refine vC_congr (h := h) (fun c j q1 q2 _ => ?_) r4
    rw [← hH, up_n (by omega), up_n (by omega), up_n (by omega)]
theorem gK_drop_ok (d : Nat) {k : Nat} {h S : am_H} {K : K_T} (hv : VH S) (hR : RC k h S K) {i t : Nat} (hi : i < nP S) (ht : t < nT S) (hc : K.1 4 t = nI i) :
    ∃ h', am_g (d + 1) 11 [vr 1 k, vi (nI i), vi (nI t)] h = some (h', none) ∧ RC k h' S (kPt i t K) ∧ frC k h h' := by
  have hP := hv.2.2.1.2.2
  have hT := hv.2.2.2.1.2
  obtain ⟨r1, r2, r3, r4⟩ := id hR
  obtain ⟨a1, a2, a3, a4⟩ := r1 i hi
  obtain ⟨b5, b6, b7, b8⟩ := r2 t ht
  have q2 : ∀ y z, (am_up (am_up h (k + 5) t y) (k + 6) t z) (k + 2) i = K.1 1 i := fun y z => by rw [up_n (by omega), up_n (by omega)]; exact a2
  rw [gK_drop, b_ok (by omega) (by omega), b_ok (by omega) (by omega), b_ok (by omega) (by omega), b_ok (by omega) (by omega), b_ok (by omega) (by omega), q2, a1]
  generalize hH : am_up (am_up (am_up h (k + 5) t (K.1 0 i)) (k + 6) t (-4)) (k + 7) t (K.1 1 i) = h'
  have hk0 : h' k = h k := by rw [← hH, up_n (by omega), up_n (by omega), up_n (by omega)]
  refine ⟨h', rfl, ?_, fun c hc => by rw [← hH, up_n (by omega), up_n (by omega), up_n (by omega)], fun j _ => by rw [hk0]⟩
  unfold kPt
  rw [if_pos hc]
  refine ⟨fun j hj => ?_, fun t' ht' => ?_, by rw [hk0]; exact r3, ?_⟩
  · have := r1 j hj
    rw [← hH]
    simpa [up_a] using this
  · obtain ⟨c3, c4, c5, c6⟩ := r2 t' ht'
    rw [← hH]
    by_cases q : t' = t
    · subst q; simp [up_a, b8]
    · simp [up_a, q, c3, c4, c5, c6]
  · refine vC_congr (h := h) (fun c j q1 q2 _ => ?_) r4
    rw [← hH, up_n (by omega), up_n (by omega), up_n (by omega)]
theorem gK_perform_ok (d : Nat) {k o : Nat} {h S : am_H} {K : K_T} {n : Nat} (hv : VH S) (e : EH k o h S) (hR : RC k h S K) (hK : VK S n K) (hn : n < 40) {a : K_A} (ha : okA S a) :
    ∃ h', am_g (d + 4) 3 [vr 1 k, vi (nI a.1), vi (nI a.2.1), vi (nI a.2.2)] h = some (h', none) ∧ RC k h' S (kAct S a K) ∧ frC k h h' := by
  obtain ⟨kk, i, w⟩ := a
  obtain ⟨hi, hk⟩ := ha
  dsimp only at hi hk ⊢
  rw [gK_perform, show (1 : Int32) = nI 1 from rfl, show (2 : Int32) = nI 2 from rfl, show (3 : Int32) = nI 3 from rfl, ← nI_0]
  rcases hk with ⟨rfl, h1, h2⟩ | ⟨rfl, h1⟩ | ⟨rfl, h1⟩ | ⟨rfl, h1⟩
  · obtain ⟨h', g1, g2, g3⟩ := gK_pass_ok (d + 1) hv e hR hK (by omega) hi (nI w)
    rw [if_pos rfl, g1, r0_ok]
    exact ⟨h', rfl, g2, g3⟩
  · rw [if_neg (nI_ne (by omega) (by omega) (by omega)), if_pos rfl, gK_canGo_ok (d + 1) hv e hR hi h1, r1_ok, nI_0]
    show ∃ h', _ ∧ RC k h' S (kGo S i w K) ∧ _
    by_cases hb : bes S w (K.1 0 i)
    · rw [if_neg (by rw [yn_0]; exact fun q => q hb)]
      obtain ⟨h', g1, g2, g3⟩ := gK_cross_ok d hv e hR hK hn hi h1
      rw [g1, r0_ok]
      refine ⟨h', rfl, ?_, g3⟩
      unfold kGo
      rw [if_pos hb]
      exact g2
    · rw [if_pos (by rw [yn_0]; exact hb), if_neg (nI_ne (by omega) (by omega) (by omega)), if_neg (nI_ne (by omega) (by omega) (by omega))]
      refine ⟨h, rfl, ?_, frC.rf k h⟩
      unfold kGo
      rw [if_neg hb]
      exact hR
  · rw [if_neg (nI_ne (by omega) (by omega) (by omega)), if_neg (nI_ne (by omega) (by omega) (by omega)), if_pos rfl, gK_canTake_ok (d + 2) hv hR hi h1, r1_ok, nI_0]
    show ∃ h', _ ∧ RC k h' S (kTk S i w K) ∧ _
    by_cases hb : K.1 3 w = K.1 0 i ∧ ¬ K.1 1 i < K.1 5 w
    · rw [if_neg (by rw [yn_0]; exact fun q => q hb)]
      obtain ⟨h', g1, g2, g3⟩ := gK_pick_ok d hv e hR hK hi h1 hb
      rw [g1, r0_ok]
      exact ⟨h', rfl, g2, g3⟩
    · rw [if_pos (by rw [yn_0]; exact hb), if_neg (nI_ne (by omega) (by omega) (by omega))]
      refine ⟨h, rfl, ?_, frC.rf k h⟩
      unfold kTk
      rw [if_neg hb]
      exact hR
  · rw [if_neg (nI_ne (by omega) (by omega) (by omega)), if_neg (nI_ne (by omega) (by omega) (by omega)), if_neg (nI_ne (by omega) (by omega) (by omega)), if_pos rfl, gK_canPut_ok (d + 2) hv hR h1, r1_ok, nI_0]
    show ∃ h', _ ∧ RC k h' S (kPt i w K) ∧ _
    by_cases hb : K.1 4 w = nI i
    · rw [if_neg (by rw [yn_0]; exact fun q => q hb)]
      obtain ⟨h', g1, g2, g3⟩ := gK_drop_ok (d + 2) hv hR hi h1 hb
      rw [g1, r0_ok]
      exact ⟨h', rfl, g2, g3⟩
    · rw [if_pos (by rw [yn_0]; exact hb)]
      refine ⟨h, rfl, ?_, frC.rf k h⟩
      unfold kPt
      rw [if_neg hb]
      exact hR
end
section
theorem vLa_ini (S : am_H) (i : Nat) : ∀ n, i < n → vLa i (vIni S n) = i := by
  intro n
  induction n with
  | zero => intro h; omega
  | succ n ih =>
    intro h
    unfold vIni vLa
    by_cases e : n = i
    · simp [e, vIni_l]
    · simp [e]
      exact ih (by omega)
theorem begin_p (d : Nat) {k o : Nat} {h1 S : am_H} {mr : Int32} (hv : VH S) (e : EH k o h1 S) : ∀ (m n i : Nat) (M : am_H), i + m = nP S → m < n → frC k h1 M → M k 14 = nI i → (∀ j, j < i → M (k + 1) j = S 93 j ∧ M (k + 2) j = 0 ∧ M (k + 3) j = S 94 j ∧ M (k + 4) j = nI j) → vC k M (vIni S i) →
    ∃ M', rK_begin (d + 1) n 12 [some (vr 1 k), some (vr 2 o), some (vi mr), some (vi (nI i))] M = rK_begin (d + 1) (n - m - 1) 44 [some (vr 1 k), some (vr 2 o), some (vi mr), some (vi 0)] M' ∧ frC k h1 M' ∧ M' k 14 = nI (nP S) ∧ (∀ j, j < nP S → M' (k + 1) j = S 93 j ∧ M' (k + 2) j = 0 ∧ M' (k + 3) j = S 94 j ∧ M' (k + 4) j = nI j) ∧ vC k M' (vIni S (nP S)) := by
  have hP := hv.2.2.1
  obtain ⟨e1, e2, e3⟩ := e.1
  intro m
  induction m with
  | zero =>
    intro n i M hik hn hf h14 h1 h2
    obtain ⟨n, rfl⟩ : ∃ m, n = m + 1 := ⟨n - 1, by omega⟩
    have q : i = nP S := by omega
    subst q
    refine ⟨M, ?_, hf, h14, h1, h2⟩
    have eM := hf.eh e
    rw [tK_begin_12, eM.o, eM.2.1.2.1, if_neg (nI_nlt (Nat.le_refl _) (by omega))]
    rfl
  | succ m ih =>
    intro n i M hik hn hf h14 h1 h2
    obtain ⟨n, rfl⟩ : ∃ m, n = m + 1 := ⟨n - 1, by omega⟩
    have hi : i < nP S := by omega
    have eM := hf.eh e
    obtain ⟨q9, q10⟩ := eM.2.2.2.2.1 i hi
    rw [tK_begin_12]
    simp (disch := omega) only [up_n]
    rw [eM.o, eM.2.1.2.1, if_pos (nI_lt hi (by omega))]
    simp (disch := omega) only [b_ok, up_n, nI_1]
    rw [q9, q10]
    generalize hM1 : am_up (am_up M (k + 2) i 0) (k + 3) i (S 94 i) = M1
    have hM14 : M1 k 14 = nI i := by rw [← hM1, up_n (by omega), up_n (by omega)]; exact h14
    rw [gK_enter_raw d (by omega) (by omega) hM14, r0_ok]
    generalize hM2 : am_up (am_up (am_up (am_up (am_up (am_up (am_up M1 (k + 1) i (S 93 i)) (k + 9) i (nI i)) (k + 10) i (S 93 i)) (k + 11) i (M1 (k + 2) i)) (k + 12) i (M1 (k + 2) i)) (k + 4) i (nI i)) k 14 (nI (i + 1)) = M2
    have hM12 : M1 (k + 2) i = 0 := by rw [← hM1, up_n (by omega), up_s]
    have hf1 : frC k M M1 := ⟨fun c hc => by rw [← hM1, up_n (by omega), up_n (by omega)], fun j _ => by rw [← hM1, up_n (by omega), up_n (by omega)]⟩
    have hf2 := enter_fr hM2
    obtain ⟨M', g1, g2⟩ := ih n (i + 1) M2 (by omega) (by omega) ((hf.tr hf1).tr hf2) (by rw [← hM2, up_s]) (fun j hj => by
      by_cases q : j = i
      · subst q
        rw [← hM2, ← hM1]
        simp [up_a]
      · have := h1 j (by omega)
        rw [← hM2, ← hM1]
        simpa [up_a, q] using this) ⟨by rw [← hM2, vIni_l]; simp [up_a], by rw [← hM2, vIni_l]; simp [up_a], by rw [← hM2, vIni_l]; simp [up_a, hM12], by rw [← hM2, vIni_l]; simp [up_a, hM12], by
        refine vC_congr (h := M) (fun c j q1 q2 q3 => ?_) h2
        rw [vIni_l] at q3
        have c1 : ¬ j = i := by omega
        have c2 : ¬ c = k := by omega
        have c3 : ¬ c = k + 4 := by omega
        have c4 : ¬ c = k + 1 := by omega
        have c5 : ¬ c = k + 2 := by omega
        have c6 : ¬ c = k + 3 := by omega
        rw [← hM2, ← hM1]
        simp [up_a, c1, c2, c3, c4]⟩
    refine ⟨M', ?_, g2⟩
    rw [g1]
    congr 1
    omega
theorem begin_t (d : Nat) {k o : Nat} {h1 S : am_H} {mr : Int32} (hv : VH S) (e : EH k o h1 S) : ∀ (m n t : Nat) (M : am_H), t + m = nT S → m < n → frC k h1 M → (∀ j, j < t → M (k + 5) j = S 96 j ∧ M (k + 6) j = -4 ∧ M (k + 7) j = 0 ∧ M (k + 8) j = 0) →
    ∃ M', rK_begin d n 44 [some (vr 1 k), some (vr 2 o), some (vi mr), some (vi (nI t))] M = some (M', none) ∧ frC k h1 M' ∧ (∀ c, ¬ (k + 5 ≤ c ∧ c ≤ k + 8) → M' c = M c) ∧ (∀ j, j < nT S → M' (k + 5) j = S 96 j ∧ M' (k + 6) j = -4 ∧ M' (k + 7) j = 0 ∧ M' (k + 8) j = 0) := by
  have hT := hv.2.2.2.1
  obtain ⟨e1, e2, e3⟩ := e.1
  intro m
  induction m with
  | zero =>
    intro n t M hik hn hf h1
    obtain ⟨n, rfl⟩ : ∃ m, n = m + 1 := ⟨n - 1, by omega⟩
    have q : t = nT S := by omega
    subst q
    have eM := hf.eh e
    refine ⟨M, ?_, hf, fun _ _ => rfl, h1⟩
    rw [tK_begin_44, eM.o, eM.2.1.2.2.1, if_neg (nI_nlt (Nat.le_refl _) (by omega))]
  | succ m ih =>
    intro n t M hik hn hf h1
    obtain ⟨n, rfl⟩ : ∃ m, n = m + 1 := ⟨n - 1, by omega⟩
    have ht : t < nT S := by omega
    have eM := hf.eh e
    rw [tK_begin_44, eM.o, eM.2.1.2.2.1, if_pos (nI_lt ht (by omega))]
    simp (disch := omega) only [b_ok, nI_1]
    rw [eM.2.2.2.2.2 t ht]
    generalize hM1 : am_up (am_up (am_up (am_up M (k + 5) t (S 96 t)) (k + 6) t (-4)) (k + 7) t 0) (k + 8) t 0 = M1
    have ho : ∀ c, ¬ (k + 5 ≤ c ∧ c ≤ k + 8) → M1 c = M c := fun c hc => by rw [← hM1, up_n (by omega), up_n (by omega), up_n (by omega), up_n (by omega)]
    have hf1 : frC k M M1 := ⟨fun c hc => ho c (by omega), fun j _ => by rw [ho k (by omega)]⟩
    obtain ⟨M', g1, g2, g3, g4⟩ := ih n (t + 1) M1 (by omega) (by omega) (hf.tr hf1) (fun j hj => by
      by_cases q : j = t
      · subst q
        rw [← hM1]
        simp [up_a]
      · have := h1 j (by omega)
        rw [← hM1]
        simpa [up_a, q] using this)
    exact ⟨M', g1, g2, fun c hc => by rw [g3 c hc, ho c hc], g4⟩
theorem gK_begin_ok (d : Nat) {k o : Nat} {h h1 S : am_H} {mr : Int32} (hv : VH S) (hh : am_up (am_up (am_up h k 0 (nI o)) k 1 mr) k 14 0 = h1) (e : EH k o h1 S) :
    ∃ h', am_g (d + 2) 2 [vr 1 k, vr 2 o, vi mr] h = some (h', none) ∧ RC k h' S (kIni S) ∧ frC k h1 h' := by
  have hP := hv.2.2.1
  have hT := hv.2.2.2.1
  obtain ⟨M1, g1, g2, g3, g4, g5⟩ := begin_p d (mr := mr) hv e (nP S) 999999 0 h1 (by omega) (by omega) (frC.rf k h1) (by rw [← hh, up_s, nI_0]) (fun j hj => by omega) trivial
  obtain ⟨M2, f1, f2, f3, f4⟩ := begin_t (d + 1) (mr := mr) hv e (nT S) (999999 - nP S - 1) 0 M1 (by omega) (by omega) g2 (fun j hj => by omega)
  rw [nI_0] at g1 f1
  refine ⟨M2, ?_, ⟨fun j hj => ?_, fun t ht => ?_, ?_, ?_⟩, f2⟩
  · rw [gK_begin, hh, g1, f1]
  · obtain ⟨b1, b2, b3, b4⟩ := g4 j hj
    rw [f3 (k + 1) (by omega), f3 (k + 2) (by omega), f3 (k + 3) (by omega), f3 (k + 4) (by omega)]
    refine ⟨b1, b2, b3, ?_⟩
    show M1 (k + 4) j = nI (vLa j (vIni S (nP S)))
    rw [vLa_ini S j _ hj]
    exact b4
  · exact f4 t ht
  · rw [f3 k (by omega), g3]
    show nI (nP S) = nI (vIni S (nP S)).length
    rw [vIni_l]
  · exact vC_congr (h := M1) (fun c j q1 q2 q3 => by rw [f3 c (by omega)]) g5
end
