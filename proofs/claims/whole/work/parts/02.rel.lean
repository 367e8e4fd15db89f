/-- the words that a call may carry on -/
def am_tbl : List Cond := lw_tbl.filter goodWord
theorem am_ins {ws : List Cond} (ps : List Nat) (h : ps.map (fun i => lw_tbl[i]?) = ws.map some) (hg : ws.all goodWord = true) : ∀ w ∈ ws, w ∈ am_tbl := by
  intro w hw
  refine List.mem_filter.mpr ⟨?_, List.all_eq_true.mp hg w hw⟩
  have h1 : some w ∈ ws.map some := List.mem_map.mpr ⟨w, hw, rfl⟩
  rw [← h] at h1
  obtain ⟨i, -, hi⟩ := List.mem_map.mp h1
  exact List.mem_of_getElem? hi
/-! LAYOUT: the classes, their fields, the cells; by program -/
def am_R0 : String := "RoomsOfHours$Acts"
def am_T0 : u_T := fun k => match k with
  | 0 => ("RoomsOfHours$Acts", "kind", "[I", true)
  | 1 => ("RoomsOfHours$Acts", "who", "[I", true)
  | 2 => ("RoomsOfHours$Acts", "with", "[I", true)
  | _ => ("RoomsOfHours$Acts", "count", "I", false)
def am_R1 : String := "RoomsOfHours$Course"
def am_T1 : u_T := fun k => match k with
  | 0 => ("RoomsOfHours$Course", "house", "LRoomsOfHours$House;", false)
  | 1 => ("RoomsOfHours$Course", "mendedRoom", "I", false)
  | 2 => ("RoomsOfHours$Course", "in", "[I", true)
  | 3 => ("RoomsOfHours$Course", "tick", "[I", true)
  | 4 => ("RoomsOfHours$Course", "age", "[I", true)
  | 5 => ("RoomsOfHours$Course", "latest", "[I", true)
  | 6 => ("RoomsOfHours$Course", "lies", "[I", true)
  | 7 => ("RoomsOfHours$Course", "holder", "[I", true)
  | 8 => ("RoomsOfHours$Course", "since", "[I", true)
  | 9 => ("RoomsOfHours$Course", "worn", "[I", true)
  | 10 => ("RoomsOfHours$Course", "visitor", "[I", true)
  | 11 => ("RoomsOfHours$Course", "visited", "[I", true)
  | 12 => ("RoomsOfHours$Course", "came", "[I", true)
  | 13 => ("RoomsOfHours$Course", "left", "[I", true)
  | _ => ("RoomsOfHours$Course", "visits", "I", false)
def am_R2 : String := "RoomsOfHours$House"
def am_T2 : u_T := fun k => match k with
  | 0 => ("RoomsOfHours$House", "pace", "[I", true)
  | 1 => ("RoomsOfHours$House", "paceBy", "[I", true)
  | 2 => ("RoomsOfHours$House", "shows", "[I", true)
  | 3 => ("RoomsOfHours$House", "hourTicks", "[I", true)
  | 4 => ("RoomsOfHours$House", "partsOfTick", "[I", true)
  | 5 => ("RoomsOfHours$House", "from", "[I", true)
  | 6 => ("RoomsOfHours$House", "to", "[I", true)
  | 7 => ("RoomsOfHours$House", "leads", "[I", true)
  | 8 => ("RoomsOfHours$House", "personIn", "[I", true)
  | 9 => ("RoomsOfHours$House", "personAge", "[I", true)
  | 10 => ("RoomsOfHours$House", "thingIn", "[I", true)
  | 11 => ("RoomsOfHours$House", "kind", "[I", true)
  | 12 => ("RoomsOfHours$House", "size", "[I", true)
  | 13 => ("RoomsOfHours$House", "numbers", "[I", true)
  | 14 => ("RoomsOfHours$House", "rooms", "I", false)
  | 15 => ("RoomsOfHours$House", "doors", "I", false)
  | 16 => ("RoomsOfHours$House", "persons", "I", false)
  | 17 => ("RoomsOfHours$House", "things", "I", false)
  | _ => ("RoomsOfHours$House", "crossing", "I", false)
def am_R3 : String := "RoomsOfHours$Sights"
def am_T3 : u_T := fun k => match k with
  | 0 => ("RoomsOfHours$Sights", "room", "[I", true)
  | 1 => ("RoomsOfHours$Sights", "hours", "[I", true)
  | 2 => ("RoomsOfHours$Sights", "shown", "[I", true)
  | _ => ("RoomsOfHours$Sights", "count", "I", false)
def am_R4 : String := "RoomsOfHours$Tour"
def am_T4 : u_T := fun k => match k with
  | 0 => ("RoomsOfHours$Tour", "ticks", "[I", false)
  | 1 => ("RoomsOfHours$Tour", "nextTicks", "[I", false)
  | 2 => ("RoomsOfHours$Tour", "soonest", "I", false)
  | _ => ("RoomsOfHours$Tour", "fewest", "I", false)
def am_R5 : String := "RoomsOfHours$Walk"
def am_T5 : u_T := fun k => match k with
  | 0 => ("RoomsOfHours$Walk", "ticks", "[I", true)
  | 1 => ("RoomsOfHours$Walk", "nextTicks", "[I", true)
  | 2 => ("RoomsOfHours$Walk", "firsts", "[I", true)
  | _ => ("RoomsOfHours$Walk", "nextFirsts", "[I", true)
def am_R6 : String := "RoomsOfHours"
def am_T6 : u_T := fun k => match k with
  | 0 => ("RoomsOfHours", "text", "[C", true)
  | 1 => ("RoomsOfHours", "letters", "I", false)
  | 2 => ("RoomsOfHours", "house", "LRoomsOfHours$House;", false)
  | 3 => ("RoomsOfHours", "readHouse", "LRoomsOfHours$House;", false)
  | 4 => ("RoomsOfHours", "course", "LRoomsOfHours$Course;", true)
  | 5 => ("RoomsOfHours", "otherCourse", "LRoomsOfHours$Course;", true)
  | 6 => ("RoomsOfHours", "acts", "LRoomsOfHours$Acts;", true)
  | 7 => ("RoomsOfHours", "keptFirst", "LRoomsOfHours$Acts;", true)
  | 8 => ("RoomsOfHours", "keptLast", "LRoomsOfHours$Acts;", true)
  | 9 => ("RoomsOfHours", "kept", "I", false)
  | 10 => ("RoomsOfHours", "sights", "LRoomsOfHours$Sights;", true)
  | 11 => ("RoomsOfHours", "walk", "LRoomsOfHours$Walk;", true)
  | _ => ("RoomsOfHours", "tour", "LRoomsOfHours$Tour;", true)
def am_R7 : String := "RoomsOfHoursModel"
def am_T7 : u_T := fun k => match k with
  | 0 => ("RoomsOfHoursModel", "length", "I", false)
  | 1 => ("RoomsOfHoursModel", "text", "[I", true)
  | 2 => ("RoomsOfHoursModel", "rooms", "[I", true)
  | 3 => ("RoomsOfHoursModel", "paceP", "[I", true)
  | 4 => ("RoomsOfHoursModel", "paceQ", "[I", true)
  | 5 => ("RoomsOfHoursModel", "shows", "[I", true)
  | 6 => ("RoomsOfHoursModel", "doors", "[I", true)
  | 7 => ("RoomsOfHoursModel", "doorA", "[I", true)
  | 8 => ("RoomsOfHoursModel", "doorB", "[I", true)
  | 9 => ("RoomsOfHoursModel", "leads", "[I", true)
  | 10 => ("RoomsOfHoursModel", "persons", "[I", true)
  | 11 => ("RoomsOfHoursModel", "startRoom", "[I", true)
  | 12 => ("RoomsOfHoursModel", "startAge", "[I", true)
  | 13 => ("RoomsOfHoursModel", "things", "[I", true)
  | 14 => ("RoomsOfHoursModel", "thingRoom", "[I", true)
  | 15 => ("RoomsOfHoursModel", "kinds", "[I", true)
  | 16 => ("RoomsOfHoursModel", "ns", "[I", true)
  | 17 => ("RoomsOfHoursModel", "walk", "[I", true)
  | 18 => ("RoomsOfHoursModel", "acts", "[I", true)
  | 19 => ("RoomsOfHoursModel", "actKind", "[I", true)
  | 20 => ("RoomsOfHoursModel", "actWho", "[I", true)
  | 21 => ("RoomsOfHoursModel", "actWhat", "[I", true)
  | 22 => ("RoomsOfHoursModel", "keptMany", "I", false)
  | 23 => ("RoomsOfHoursModel", "seenMany", "I", false)
  | 24 => ("RoomsOfHoursModel", "seenRoom", "[I", true)
  | 25 => ("RoomsOfHoursModel", "seenHours", "[I", true)
  | 26 => ("RoomsOfHoursModel", "seenOn", "[I", true)
  | 27 => ("RoomsOfHoursModel", "spot", "I", false)
  | 28 => ("RoomsOfHoursModel", "told", "[I", true)
  | 29 => ("RoomsOfHoursModel", "at", "[I", true)
  | 30 => ("RoomsOfHoursModel", "tick", "[I", true)
  | 31 => ("RoomsOfHoursModel", "age", "[I", true)
  | 32 => ("RoomsOfHoursModel", "lies", "[I", true)
  | 33 => ("RoomsOfHoursModel", "holder", "[I", true)
  | 34 => ("RoomsOfHoursModel", "since", "[I", true)
  | 35 => ("RoomsOfHoursModel", "old", "[I", true)
  | 36 => ("RoomsOfHoursModel", "visits", "[I", true)
  | 37 => ("RoomsOfHoursModel", "visitRoom", "[I", true)
  | 38 => ("RoomsOfHoursModel", "visitFrom", "[I", true)
  | 39 => ("RoomsOfHoursModel", "visitTo", "[I", true)
  | 40 => ("RoomsOfHoursModel", "low", "[I", true)
  | 41 => ("RoomsOfHoursModel", "leadTo", "[I", true)
  | 42 => ("RoomsOfHoursModel", "here", "[I", true)
  | 43 => ("RoomsOfHoursModel", "there", "[I", true)
  | _ => ("RoomsOfHoursModel", "ticksOf", "[I", true)
abbrev am_cls : List vw_C := [(am_R0, am_T0, 4), (am_R1, am_T1, 15), (am_R2, am_T2, 19), (am_R3, am_T3, 4), (am_R4, am_T4, 4), (am_R5, am_T5, 4), (am_R6, am_T6, 13), (am_R7, am_T7, 45)]
def am_y0 : Nat → FieldType := fun k => match k with
  | 0 => .array .int
  | 1 => .array .int
  | 2 => .array .int
  | _ => .int
theorem am_y0_ok : ∀ k, k < 4 → parseFieldDescriptor (am_T0 k).2.2.1 = some (am_y0 k) := by decide +kernel
theorem am_n0 : ∀ a, a < 4 → ∀ b, b < 4 → a ≠ b → (am_T0 a).2.1 ≠ (am_T0 b).2.1 := by decide +kernel
theorem am_i0 : ∀ w ∈ u_ws am_R0 am_T0 4, w ∈ am_tbl := am_ins [258, 260, 262, 264] (by decide +kernel) (by decide +kernel)
def am_y1 : Nat → FieldType := fun k => match k with
  | 0 => .object "RoomsOfHours$House"
  | 1 => .int
  | 2 => .array .int
  | 3 => .array .int
  | 4 => .array .int
  | 5 => .array .int
  | 6 => .array .int
  | 7 => .array .int
  | 8 => .array .int
  | 9 => .array .int
  | 10 => .array .int
  | 11 => .array .int
  | 12 => .array .int
  | 13 => .array .int
  | _ => .int
theorem am_y1_ok : ∀ k, k < 15 → parseFieldDescriptor (am_T1 k).2.2.1 = some (am_y1 k) := by decide +kernel
theorem am_n1 : ∀ a, a < 15 → ∀ b, b < 15 → a ≠ b → (am_T1 a).2.1 ≠ (am_T1 b).2.1 := by decide +kernel
theorem am_i1 : ∀ w ∈ u_ws am_R1 am_T1 15, w ∈ am_tbl := am_ins [213, 215, 217, 219, 221, 223, 225, 227, 229, 231, 233, 235, 237, 239, 241] (by decide +kernel) (by decide +kernel)
def am_y2 : Nat → FieldType := fun k => match k with
  | 0 => .array .int
  | 1 => .array .int
  | 2 => .array .int
  | 3 => .array .int
  | 4 => .array .int
  | 5 => .array .int
  | 6 => .array .int
  | 7 => .array .int
  | 8 => .array .int
  | 9 => .array .int
  | 10 => .array .int
  | 11 => .array .int
  | 12 => .array .int
  | 13 => .array .int
  | 14 => .int
  | 15 => .int
  | 16 => .int
  | 17 => .int
  | _ => .int
theorem am_y2_ok : ∀ k, k < 19 → parseFieldDescriptor (am_T2 k).2.2.1 = some (am_y2 k) := by decide +kernel
theorem am_n2 : ∀ a, a < 19 → ∀ b, b < 19 → a ≠ b → (am_T2 a).2.1 ≠ (am_T2 b).2.1 := by decide +kernel
theorem am_i2 : ∀ w ∈ u_ws am_R2 am_T2 19, w ∈ am_tbl := am_ins [141, 143, 145, 147, 149, 151, 153, 155, 157, 159, 161, 163, 165, 167, 169, 171, 173, 175, 177] (by decide +kernel) (by decide +kernel)
def am_y3 : Nat → FieldType := fun k => match k with
  | 0 => .array .int
  | 1 => .array .int
  | 2 => .array .int
  | _ => .int
theorem am_y3_ok : ∀ k, k < 4 → parseFieldDescriptor (am_T3 k).2.2.1 = some (am_y3 k) := by decide +kernel
theorem am_n3 : ∀ a, a < 4 → ∀ b, b < 4 → a ≠ b → (am_T3 a).2.1 ≠ (am_T3 b).2.1 := by decide +kernel
theorem am_i3 : ∀ w ∈ u_ws am_R3 am_T3 4, w ∈ am_tbl := am_ins [278, 280, 282, 284] (by decide +kernel) (by decide +kernel)
def am_y4 : Nat → FieldType := fun k => match k with
  | 0 => .array .int
  | 1 => .array .int
  | 2 => .int
  | _ => .int
theorem am_y4_ok : ∀ k, k < 4 → parseFieldDescriptor (am_T4 k).2.2.1 = some (am_y4 k) := by decide +kernel
theorem am_n4 : ∀ a, a < 4 → ∀ b, b < 4 → a ≠ b → (am_T4 a).2.1 ≠ (am_T4 b).2.1 := by decide +kernel
theorem am_i4 : ∀ w ∈ u_ws am_R4 am_T4 4, w ∈ am_tbl := am_ins [320, 322, 324, 326] (by decide +kernel) (by decide +kernel)
def am_y5 : Nat → FieldType := fun k => match k with
  | 0 => .array .int
  | 1 => .array .int
  | 2 => .array .int
  | _ => .array .int
theorem am_y5_ok : ∀ k, k < 4 → parseFieldDescriptor (am_T5 k).2.2.1 = some (am_y5 k) := by decide +kernel
theorem am_n5 : ∀ a, a < 4 → ∀ b, b < 4 → a ≠ b → (am_T5 a).2.1 ≠ (am_T5 b).2.1 := by decide +kernel
theorem am_i5 : ∀ w ∈ u_ws am_R5 am_T5 4, w ∈ am_tbl := am_ins [299, 301, 303, 305] (by decide +kernel) (by decide +kernel)
def am_y6 : Nat → FieldType := fun k => match k with
  | 0 => .array .char
  | 1 => .int
  | 2 => .object "RoomsOfHours$House"
  | 3 => .object "RoomsOfHours$House"
  | 4 => .object "RoomsOfHours$Course"
  | 5 => .object "RoomsOfHours$Course"
  | 6 => .object "RoomsOfHours$Acts"
  | 7 => .object "RoomsOfHours$Acts"
  | 8 => .object "RoomsOfHours$Acts"
  | 9 => .int
  | 10 => .object "RoomsOfHours$Sights"
  | 11 => .object "RoomsOfHours$Walk"
  | _ => .object "RoomsOfHours$Tour"
theorem am_y6_ok : ∀ k, k < 13 → parseFieldDescriptor (am_T6 k).2.2.1 = some (am_y6 k) := by decide +kernel
theorem am_n6 : ∀ a, a < 13 → ∀ b, b < 13 → a ≠ b → (am_T6 a).2.1 ≠ (am_T6 b).2.1 := by decide +kernel
theorem am_i6 : ∀ w ∈ u_ws am_R6 am_T6 13, w ∈ am_tbl := am_ins [447, 449, 451, 453, 455, 457, 459, 461, 463, 465, 467, 469, 471] (by decide +kernel) (by decide +kernel)
def am_y7 : Nat → FieldType := fun k => match k with
  | 0 => .int
  | 1 => .array .int
  | 2 => .array .int
  | 3 => .array .int
  | 4 => .array .int
  | 5 => .array .int
  | 6 => .array .int
  | 7 => .array .int
  | 8 => .array .int
  | 9 => .array .int
  | 10 => .array .int
  | 11 => .array .int
  | 12 => .array .int
  | 13 => .array .int
  | 14 => .array .int
  | 15 => .array .int
  | 16 => .array .int
  | 17 => .array .int
  | 18 => .array .int
  | 19 => .array .int
  | 20 => .array .int
  | 21 => .array .int
  | 22 => .int
  | 23 => .int
  | 24 => .array .int
  | 25 => .array .int
  | 26 => .array .int
  | 27 => .int
  | 28 => .array .int
  | 29 => .array .int
  | 30 => .array .int
  | 31 => .array .int
  | 32 => .array .int
  | 33 => .array .int
  | 34 => .array .int
  | 35 => .array .int
  | 36 => .array .int
  | 37 => .array .int
  | 38 => .array .int
  | 39 => .array .int
  | 40 => .array .int
  | 41 => .array .int
  | 42 => .array .int
  | 43 => .array .int
  | _ => .array .int
theorem am_y7_ok : ∀ k, k < 45 → parseFieldDescriptor (am_T7 k).2.2.1 = some (am_y7 k) := by decide +kernel
theorem am_n7 : ∀ a, a < 45 → ∀ b, b < 45 → a ≠ b → (am_T7 a).2.1 ≠ (am_T7 b).2.1 := by decide +kernel
theorem am_i7 : ∀ w ∈ u_ws am_R7 am_T7 45, w ∈ am_tbl := am_ins [948, 950, 952, 954, 956, 958, 960, 962, 964, 966, 968, 970, 972, 974, 976, 978, 980, 982, 984, 986, 988, 990, 992, 994, 996, 998, 1000, 1002, 1004, 1006, 1008, 1010, 1012, 1014, 1016, 1018, 1020, 1022, 1024, 1026, 1028, 1030, 1032, 1034, 1036] (by decide +kernel) (by decide +kernel)
def am_CT : List Nat := [6, 9, 2, 106, 106, 106, 106, 106, 108, 108, 108, 104, 104, 105, 105, 105, 104, 2, 106, 106, 106, 106, 106, 108, 108, 108, 104, 104, 105, 105, 105, 104, 1, 104, 104, 104, 104, 105, 105, 105, 105, 144, 144, 144, 144, 1, 104, 104, 104, 104, 105, 105, 105, 105, 144, 144, 144, 144, 0, 140, 140, 140, 0, 140, 140, 140, 0, 140, 140, 140, 3, 108, 108, 108, 5, 106, 106, 106, 106, 4, 484, 484, 7, 300, 102, 112, 112, 112, 102, 116, 116, 116, 102, 108, 108, 102, 110, 110, 110, 102, 103, 220, 220, 220, 108, 108, 108, 104, 104, 104, 104, 105, 105, 105, 105, 104, 264, 264, 264, 154, 106, 484, 484, 104]
def am_lk : List Nat → Nat → Nat
  | [], _ => 8
  | a :: _, 0 => a
  | _ :: l, n + 1 => am_lk l n
def am_ct (k : Nat) : Nat := am_lk am_CT k
def am_FT : List (List (Nat × Nat × Nat)) := [[(1, 140, 1), (1, 140, 2), (1, 140, 3), (0, 0, 0)], [(2, 2, 0), (0, 0, 0), (1, 104, 1), (1, 104, 2), (1, 104, 3), (1, 104, 4), (1, 105, 5), (1, 105, 6), (1, 105, 7), (1, 105, 8), (1, 144, 9), (1, 144, 10), (1, 144, 11), (1, 144, 12), (0, 0, 0)], [(1, 106, 1), (1, 106, 2), (1, 106, 3), (1, 106, 4), (1, 106, 5), (1, 108, 6), (1, 108, 7), (1, 108, 8), (1, 104, 9), (1, 104, 10), (1, 105, 11), (1, 105, 12), (1, 105, 13), (1, 104, 14), (0, 0, 0), (0, 0, 0), (0, 0, 0), (0, 0, 0), (0, 0, 0)], [(1, 108, 1), (1, 108, 2), (1, 108, 3), (0, 0, 0)], [(2, 484, 0), (2, 484, 0), (0, 0, 0), (0, 0, 0)], [(1, 106, 1), (1, 106, 2), (1, 106, 3), (1, 106, 4)], [(1, 9, 1), (0, 0, 0), (2, 2, 0), (2, 2, 0), (1, 1, 32), (1, 1, 45), (1, 0, 58), (1, 0, 62), (1, 0, 66), (0, 0, 0), (1, 3, 70), (1, 5, 74), (1, 4, 79)], [(0, 0, 0), (1, 300, 1), (1, 102, 2), (1, 112, 3), (1, 112, 4), (1, 112, 5), (1, 102, 6), (1, 116, 7), (1, 116, 8), (1, 116, 9), (1, 102, 10), (1, 108, 11), (1, 108, 12), (1, 102, 13), (1, 110, 14), (1, 110, 15), (1, 110, 16), (1, 102, 17), (1, 103, 18), (1, 220, 19), (1, 220, 20), (1, 220, 21), (0, 0, 0), (0, 0, 0), (1, 108, 22), (1, 108, 23), (1, 108, 24), (0, 0, 0), (1, 104, 25), (1, 104, 26), (1, 104, 27), (1, 104, 28), (1, 105, 29), (1, 105, 30), (1, 105, 31), (1, 105, 32), (1, 104, 33), (1, 264, 34), (1, 264, 35), (1, 264, 36), (1, 154, 37), (1, 106, 38), (1, 484, 39), (1, 484, 40), (1, 104, 41)]]
def am_ft (t j : Nat) : Nat × Nat × Nat := (am_FT.getD t []).getD j (0, 0, 0)
def am_nf (t : Nat) : Nat := (am_FT.getD t []).length
/-- the fields of the cells below n that are final references lead to cells below n, of the kind that the table says -/
def am_clo (n : Nat) : Bool := (List.range n).all fun o => (List.range (am_nf (am_ct o))).all fun j => !(decide (am_ct o < 8) && (am_ft (am_ct o) j).1 == 1) || (decide (o + (am_ft (am_ct o) j).2.2 < n) && am_ct (o + (am_ft (am_ct o) j).2.2) == (am_ft (am_ct o) j).2.1)
theorem am_clo82 : am_clo 82 = true := by decide +kernel
theorem am_clo124 : am_clo 124 = true := by decide +kernel
theorem am_clo_of {n o j : Nat} (h : am_clo n = true) (ho : o < n) (h8 : am_ct o < 8) (hj : j < am_nf (am_ct o)) {t off : Nat} (hf : am_ft (am_ct o) j = (1, t, off)) : o + off < n ∧ am_ct (o + off) = t := by
  have h1 := List.all_eq_true.mp h o (List.mem_range.mpr ho)
  have h2 := List.all_eq_true.mp h1 j (List.mem_range.mpr hj)
  rw [hf] at h2
  simp [h8] at h2
  exact h2
/-- every cell is an object, the letters, or a row of ints -/
def am_kdB (n : Nat) : Bool := (List.range n).all fun o => decide (am_ct o < 8) || am_ct o == 9 || decide (100 ≤ am_ct o)
def am_cv (b0 bS : Nat) : am_V → Value
  | Sum.inl x => .int x
  | Sum.inr (Sum.inl (t, a)) => .ref (if t = 8 then bS else b0 + a)
  | Sum.inr (Sum.inr x) => .long x
theorem am_cv_cat (b0 bS : Nat) (v : am_V) : (am_cv b0 bS v).category = am_cat v := by
  rcases v with x | ⟨t, a⟩ | x <;> rfl
def am_ok (nC : Nat) (sc : Prop) : am_V → Prop
  | Sum.inr (Sum.inl (t, a)) => if t = 8 then sc else a < nC ∧ am_ct a = t
  | _ => True
def am_lv (f : am_V → Value) : Nat → am_L → List (Nat × Value)
  | _, [] => []
  | i, none :: l => am_lv f (i + 1) l
  | i, some v :: l => (i, f v) :: am_lv f (i + 1) l
theorem am_lv_mem {f : am_V → Value} (l : am_L) : ∀ (i : Nat) (q : Nat × Value), q ∈ am_lv f i l ↔ ∃ (j : Nat) (v : am_V), am_ix l j = some v ∧ q = (i + j, f v) := by
  induction l with
  | nil => intro i q; simp [am_lv, am_ix]
  | cons a l ih =>
    intro i q
    have key : (∃ (j : Nat) (v : am_V), am_ix (a :: l) j = some v ∧ q = (i + j, f v)) ↔ (∃ v, a = some v ∧ q = (i, f v)) ∨ ∃ (j : Nat) (v : am_V), am_ix l j = some v ∧ q = (i + 1 + j, f v) := by
      constructor
      · rintro ⟨j, v, h1, h2⟩
        match j, h1, h2 with
        | 0, h1, h2 => exact Or.inl ⟨v, h1, h2⟩
        | j + 1, h1, h2 => exact Or.inr ⟨j, v, h1, by rw [h2]; congr 1; omega⟩
      · rintro (⟨v, h1, h2⟩ | ⟨j, v, h1, h2⟩)
        · exact ⟨0, v, h1, h2⟩
        · exact ⟨j + 1, v, h1, by rw [h2]; congr 1; omega⟩
    rw [key]
    cases a with
    | none => simp [am_lv, ih]
    | some v => simp [am_lv, ih]
theorem am_ix_st (l : am_L) : ∀ (i j : Nat) (w : Option am_V), am_ix (am_st l i w) j = if j = i ∧ i < l.length then w else am_ix l j := by
  induction l with
  | nil => intro i j w; simp [am_st, am_ix]
  | cons a l ih =>
    intro i j w
    match i, j with
    | 0, 0 => simp [am_st, am_ix]
    | 0, j + 1 => simp [am_st, am_ix]
    | i + 1, 0 => simp [am_st, am_ix]
    | i + 1, j + 1 => simp [am_st, am_ix, ih]
theorem am_st_len (l : am_L) : ∀ (i : Nat) (w : Option am_V), (am_st l i w).length = l.length := by
  induction l with
  | nil => intro i w; rfl
  | cons a l ih =>
    intro i w
    match i with
    | 0 => rfl
    | i + 1 => simp [am_st, ih]
theorem am_ix_lt {l : am_L} : ∀ {i : Nat} {v : am_V}, am_ix l i = some v → i < l.length := by
  induction l with
  | nil => intro i v h; simp [am_ix] at h
  | cons a l ih =>
    intro i v h
    match i, h with
    | 0, _ => simp
    | i + 1, h => have := ih (i := i) h; simp; omega
/-- the locals -/
def am_LR (f : am_V → Value) (nL : Nat) (ls : am_L) (sl : Array Slot) : Prop := ls.length = nL ∧ lv_has sl nL (am_lv f 0 ls)
theorem am_LR.ld {f : am_V → Value} {nL : Nat} {ls : am_L} {sl : Array Slot} (h : am_LR f nL ls sl) {i : Nat} {v : am_V} (hi : am_ix ls i = some v) : sl[i]? = some (.val (f v)) :=
  h.2.2.2 (i, f v) ((am_lv_mem ls 0 _).mpr ⟨i, v, hi, by simp⟩)
theorem am_LR.at {f : am_V → Value} {nL : Nat} {ls : am_L} {sl : Array Slot} (h : am_LR f nL ls sl) {i : Nat} {v : am_V} (hi : am_ix ls i = some v) : ∃ k : Nat, (am_lv f 0 ls)[k]? = some (i, f v) :=
  List.getElem?_of_mem ((am_lv_mem ls 0 _).mpr ⟨i, v, hi, by simp⟩)
theorem am_pre_some {ls : am_L} {i : Nat} {k : am_Z} {r : am_H × Option Int32} (h : am_pre ls i k = some r) : k = some r ∧ ∀ (j : Nat) (w : am_V), j + 1 = i → am_ix ls j = some w → am_cat w = 1 := by
  match i, h with
  | 0, h => exact ⟨h, fun j w hj => by omega⟩
  | i + 1, h =>
    have h : (match am_ix ls i with
      | some (Sum.inr (Sum.inr _)) => none
      | _ => k) = some r := h
    split at h
    · cases h
    · rename_i hn
      refine ⟨h, fun j w hj hw => ?_⟩
      have : j = i := by omega
      subst this
      rcases w with x | ⟨t, a⟩ | x
      · rfl
      · rfl
      · exact absurd hw (hn x)
theorem am_LR.st1 {f : am_V → Value} (hf : ∀ v, (f v).category = am_cat v) {nL : Nat} {ls : am_L} {sl sl' : Array Slot} (h : am_LR f nL ls sl) {i : Nat} {v : am_V} (hpre : ∀ (j : Nat) (w : am_V), j + 1 = i → am_ix ls j = some w → am_cat w = 1)
    (h' : lv_has sl' nL ((i, f v) :: (am_lv f 0 ls).filter (fun q => !(q.1 == i) && !(q.1 + 1 == i && q.2.category == 2)))) : am_LR f nL (am_st ls i (some v)) sl' := by
  refine ⟨by rw [am_st_len]; exact h.1, h'.1, h'.2.1, fun q hq => h'.2.2 q ?_⟩
  obtain ⟨j, w, h1, rfl⟩ := (am_lv_mem _ 0 q).mp hq
  rw [am_ix_st] at h1
  split at h1
  · rename_i hc
    cases h1
    rw [hc.1]
    simp
  · rename_i hc
    have hj : j ≠ i := fun e => hc ⟨e, by rw [← e]; exact am_ix_lt (by first | exact h1)⟩
    refine List.mem_cons_of_mem _ (List.mem_filter.mpr ⟨(am_lv_mem ls 0 _).mpr ⟨j, w, h1, rfl⟩, ?_⟩)
    simp only [Nat.zero_add, Bool.and_eq_true, Bool.not_eq_true', beq_eq_false_iff_ne, ne_eq]
    refine ⟨hj, ?_⟩
    by_cases e : j + 1 = i
    · have := hpre j w e h1
      simp [hf, this]
    · simp [e]
theorem am_LR.st2 {f : am_V → Value} (hf : ∀ v, (f v).category = am_cat v) {nL : Nat} {ls : am_L} {sl sl' : Array Slot} (h : am_LR f nL ls sl) {i : Nat} {v : am_V} (hpre : ∀ (j : Nat) (w : am_V), j + 1 = i → am_ix ls j = some w → am_cat w = 1)
    (h' : lv_has sl' nL ((i, f v) :: (am_lv f 0 ls).filter (fun q => !(q.1 == i) && (!(q.1 == i + 1) && !(q.1 + 1 == i && q.2.category == 2))))) : am_LR f nL (am_st (am_st ls i (some v)) (i + 1) none) sl' := by
  refine ⟨by rw [am_st_len, am_st_len]; exact h.1, h'.1, h'.2.1, fun q hq => h'.2.2 q ?_⟩
  obtain ⟨j, w, h1, rfl⟩ := (am_lv_mem _ 0 q).mp hq
  have hj1 : j ≠ i + 1 := by
    intro e
    have hl := am_ix_lt h1
    rw [am_st_len] at hl
    rw [am_ix_st, if_pos ⟨e, by omega⟩] at h1
    cases h1
  rw [am_ix_st, if_neg (fun q => hj1 q.1), am_ix_st] at h1
  split at h1
  · rename_i hc
    cases h1
    rw [hc.1]
    simp
  · rename_i hc
    have hj : j ≠ i := fun e => hc ⟨e, by rw [← e]; exact am_ix_lt h1⟩
    refine List.mem_cons_of_mem _ (List.mem_filter.mpr ⟨(am_lv_mem ls 0 _).mpr ⟨j, w, h1, rfl⟩, ?_⟩)
    simp only [Nat.zero_add, Bool.and_eq_true, Bool.not_eq_true', beq_eq_false_iff_ne, ne_eq]
    refine ⟨hj, hj1, ?_⟩
    by_cases e : j + 1 = i
    · have := hpre j w e h1
      simp [hf, this]
    · simp [e]
/-- the world -/
def am_fv (b0 t k j : Nat) (x : Int32) : Value := match am_ft t j with
  | (0, _, _) => .int x
  | (1, _, off) => .ref (b0 + (k + off))
  | _ => .ref (b0 + x.toNatClampNeg)
def am_en (b0 : Nat) (cI cH : ClassId) (k : Nat) (f : Nat → Int32) : va_E :=
  if am_ct k < 8 then .inr (am_ct k, (List.range (am_nf (am_ct k))).map (fun j => am_fv b0 (am_ct k) k j (f j))) else if am_ct k = 9 then .inl (cH, 200, .inl f) else .inl (cI, am_ct k - 100, .inl f)
def am_w (b0 : Nat) (cI cH : ClassId) (nC : Nat) (h : am_H) : va_W := (List.range nC).map (fun k => (b0 + k, am_en b0 cI cH k (h k)))
theorem am_w_get {b0 : Nat} {cI cH : ClassId} {nC : Nat} {h : am_H} {k : Nat} (hk : k < nC) : (am_w b0 cI cH nC h)[k]? = some (b0 + k, am_en b0 cI cH k (h k)) := by
  simp [am_w, hk]
theorem am_w_D (b0 : Nat) (cI cH : ClassId) (nC : Nat) (h : am_H) : va_D (fun q => b0 ≤ q) (am_w b0 cI cH nC h) := by
  have key : ∀ (k : Nat) (p : Nat × va_E), (am_w b0 cI cH nC h)[k]? = some p → p.1 = b0 + k := by
    intro k p hp
    by_cases hk : k < nC
    · rw [am_w_get hk] at hp
      cases hp
      rfl
    · simp [am_w, hk] at hp
  refine ⟨fun i j p q hp hq e => ?_, fun k q hq => ?_⟩
  · have h1 := key i p hp
    have h2 := key j q hq
    omega
  · have h1 := key k q hq
    show b0 ≤ q.1
    omega
theorem am_w_set {b0 : Nat} {cI cH : ClassId} {nC : Nat} {h : am_H} {k : Nat} (f : Nat → Int32) : (am_w b0 cI cH nC h).set k (b0 + k, am_en b0 cI cH k f) = am_w b0 cI cH nC (va_up h k f) := by
  apply List.ext_getElem?
  intro i
  by_cases hi : i < nC
  · by_cases e : k = i
    · subst e
      rw [List.getElem?_set_self (by simp [am_w, hi]), am_w_get hi]
      simp [va_up]
    · rw [List.getElem?_set_ne e, am_w_get hi, am_w_get hi]
      have : i ≠ k := fun q => e q.symm
      simp [va_up, this]
  · simp [am_w, hi]
/-- the fields that hold changing references -/
def am_wf (nC : Nat) (h : am_H) : Prop := ∀ o : Nat, o < nC → am_ct o < 8 → ∀ j : Nat, j < am_nf (am_ct o) → ∀ t off : Nat, am_ft (am_ct o) j = (2, t, off) → (h o j).toNatClampNeg < nC ∧ am_ct (h o j).toNatClampNeg = t
theorem am_wf_arr {nC : Nat} {h : am_H} {a : Nat} {f : Nat → Int32} (hw : am_wf nC h) (ha : ¬ am_ct a < 8) : am_wf nC (va_up h a f) := by
  intro o ho h8 j hj t off hf
  have : o ≠ a := fun e => ha (e ▸ h8)
  have e1 : va_up h a f o = h o := by simp [va_up, this]
  rw [e1]
  exact hw o ho h8 j hj t off hf
theorem am_wf_int {nC : Nat} {h : am_H} {a k : Nat} {x : Int32} (hw : am_wf nC h) (hk : ∀ t off : Nat, am_ft (am_ct a) k ≠ (2, t, off)) : am_wf nC (am_up h a k x) := by
  intro o ho h8 j hj t off hf
  have e1 : am_up h a k x o j = h o j := by
    unfold am_up va_up
    by_cases e : o = a
    · subst e
      have : j ≠ k := fun q => hk t off (q ▸ hf)
      simp [upd, this]
    · simp [e]
  rw [e1]
  exact hw o ho h8 j hj t off hf
theorem am_wf_ref {nC : Nat} {h : am_H} {a k b t' off' : Nat} (hw : am_wf nC h) (hk : am_ft (am_ct a) k = (2, t', off')) (hb : b < nC) (hb' : b < 2 ^ 31) (ht : am_ct b = t') : am_wf nC (am_up h a k (nI b)) := by
  intro o ho h8 j hj t off hf
  by_cases e : o = a ∧ j = k
  · obtain ⟨rfl, rfl⟩ := e
    have e1 : am_up h o j (nI b) o j = nI b := by simp [am_up, va_up, upd]
    rw [e1, nI_clamp hb']
    rw [hk] at hf
    cases hf
    exact ⟨hb, ht⟩
  · have e1 : am_up h a k (nI b) o j = h o j := by
      unfold am_up va_up
      by_cases e2 : o = a
      · subst e2
        have : j ≠ k := fun q => e ⟨rfl, q⟩
        simp [upd, this]
      · simp [e2]
    rw [e1]
    exact hw o ho h8 j hj t off hf
/-! WHAT IS CHECKED OF A ROW, and the methods' table -/
def am_pcI (l : List am_W) (x : Int) : Bool := match l with
  | (pc, _) :: _ => decide ((pc : Int) = x)
  | [] => false
def am_pc (l : List am_W) : Nat := match l with
  | (pc, _) :: _ => pc
  | [] => 0
theorem am_pcI_pc {l : List am_W} {x : Int} (h : am_pcI l x = true) : ((am_pc l : Nat) : Int) = x := by
  match l, h with
  | (pc, _) :: _, h => exact of_decide_eq_true h
def am_tsk (tb : List am_W) (pc : Nat) : Nat → List Int → List Nat → Bool
  | _, [], [] => true
  | v, o :: os, v' :: t :: l => v' == v && am_pcI (am_drp t tb) ((pc : Int) + o) && am_tsk tb pc (v + 1) os l
  | _, _, _ => false
def am_lsk (tb : List am_W) (pc : Nat) : List (Int × Int) → List Nat → Bool
  | [], [] => true
  | (a, o) :: os, v :: t :: l => decide (a = (v : Int)) && decide (v < 2 ^ 31) && am_pcI (am_drp t tb) ((pc : Int) + o) && am_lsk tb pc os l
  | _, _ => false
/-- a method: its name, its bytes, its locals, what it returns, whether it is static; the places of its words: code, static or instance, selects, initialized -/
abbrev am_M : Type := MethodName × ByteArray × Nat × Option FieldType × Bool × List Nat
def am_word (i : Nat) (w : Cond) : Bool := decide (lw_tbl[i]? = some w) && goodWord w
theorem am_word_mem {i : Nat} {w : Cond} (h : am_word i w = true) : w ∈ am_tbl := by
  unfold am_word at h
  rw [Bool.and_eq_true] at h
  exact List.mem_filter.mpr ⟨List.mem_of_getElem? (of_decide_eq_true h.1), h.2⟩
def am_fck (own : String) (idx : Nat) (aux : List Nat) : Bool := match aux with
  | kd :: ci :: sl :: tg :: off :: wi :: _ => (match am_cls[ci]? with
    | some (C, T, N) => decide (sl < N) && decide (N = am_nf ci) && decide ((T sl).1 = C) && decide (am_ft ci sl = (kd, tg, off)) && decide (ci < 8) && decide (kd ≤ 2) && decide (tg ≠ 8) && am_word wi (.fieldLink own idx C (T sl).2.1 (T sl).2.2.1)
    | none => false)
  | _ => false
def am_pck (aux : List Nat) : Bool := match aux with
  | kd :: ci :: sl :: _ => (match am_cls[ci]? with
    | some (_, T, _) => decide ((T sl).2.2.2 = false) && (match kd with
      | 0 => decide (parseFieldDescriptor (T sl).2.2.1 = some .int)
      | _ => (match parseFieldDescriptor (T sl).2.2.1 with
        | some (.object _) => true
        | some (.array _) => true
        | _ => false))
    | none => false)
  | _ => false
section CHK
variable (mt : Nat → am_M) (own : String) (cc : ByteArray) (tb : List am_W) (nL : Nat) (rt : Option FieldType)
def am_ick (st : Bool) (idx : Nat) (aux : List Nat) : Bool := match aux with
  | z :: n :: rv :: ci :: wi :: _ => decide ((mt z).2.2.2.2.1 = st) && (st || decide (am_cls[ci]?.map (fun q => q.1) = some (mt z).1.cls)) && am_word wi (.methodLink own idx (mt z).1) && decide ((parseMethodDescriptor (mt z).1.desc).map (fun d => d.parameters.length) = some (if st then n else n - 1)) && (st || decide (0 < n)) && decide ((mt z).2.2.2.1 = none ↔ rv = 0)
  | _ => false
def am_il : Instr → Nat
  | .iload _ | .aload _ | .lload _ | .istore _ | .lstore _ | .bipush _ | .ldc _ => 2
  | .getfield _ | .putfield _ | .invokevirtual _ | .invokestatic _ | .if_icmp _ _ | .ifCond _ _ | .goto _ | .iinc _ _ | .sipush _ | .ldc_w _ | .ldc2_w _ => 3
  | _ => 1
def am_dck (pc len : Nat) (ins : Instr) : Bool := decide (decode cc pc = .ok (ins, len))
/-- what is to be checked beside the bytes -/
def am_xck (pc len : Nat) (ins : Instr) (aux : List Nat) (q : Int32) (rest : List am_W) : Bool := match ins with
  | .goto off => (match aux with
    | t :: _ => am_pcI (am_drp t tb) ((pc : Int) + off)
    | _ => false)
  | .if_icmp _ off => am_pcI rest ((pc + len : Nat) : Int) && (match aux with
    | t :: _ => am_pcI (am_drp t tb) ((pc : Int) + off)
    | _ => false)
  | .ifCond _ off => am_pcI rest ((pc + len : Nat) : Int) && (match aux with
    | t :: _ => am_pcI (am_drp t tb) ((pc : Int) + off)
    | _ => false)
  | .tableswitch d lo hi offs => (match aux with
    | t :: l => am_pcI (am_drp t tb) ((pc : Int) + d) && decide (0 ≤ lo) && decide (hi + 1 = lo + offs.toList.length) && am_tsk tb pc lo.toNat offs.toList l && decide (hi < 2 ^ 31)
    | _ => false)
  | .lookupswitch d ps => (match aux with
    | t :: l => am_pcI (am_drp t tb) ((pc : Int) + d) && (ps.toList.zip (ps.toList.drop 1)).all (fun (a, next) => a.1 < next.1) && am_lsk tb pc ps.toList l
    | _ => false)
  | .ireturn => (match aux with
    | 0 :: _ => decide (rt = some .int)
    | 1 :: _ => decide (rt = some .boolean)
    | _ => false)
  | .return_ => decide (rt = none)
  | .getfield idx => am_pcI rest ((pc + len : Nat) : Int) && am_fck own idx aux
  | .putfield idx => am_pcI rest ((pc + len : Nat) : Int) && am_fck own idx aux && am_pck aux
  | .invokevirtual idx => am_pcI rest ((pc + len : Nat) : Int) && am_ick mt own false idx aux
  | .invokestatic idx => am_pcI rest ((pc + len : Nat) : Int) && (match aux with
    | 999 :: wi :: _ => am_word wi (.methodLink own idx arraycopyName)
    | _ => am_ick mt own true idx aux)
  | .ldc idx => am_pcI rest ((pc + len : Nat) : Int) && (match aux with
    | wi :: _ => am_word wi (.constant own idx q)
    | _ => false)
  | .ldc_w idx => am_pcI rest ((pc + len : Nat) : Int) && (match aux with
    | wi :: _ => am_word wi (.constant own idx q)
    | _ => false)
  | .ldc2_w idx => am_pcI rest ((pc + len : Nat) : Int) && (match aux with
    | wi :: _ => am_word wi (.constantLong own idx q.toInt64)
    | _ => false)
  | .iconst n => am_pcI rest ((pc + len : Nat) : Int) && decide (Int32.ofInt n = q)
  | .bipush n => am_pcI rest ((pc + len : Nat) : Int) && decide ((Int8.ofInt n).toInt32 = q)
  | .sipush n => am_pcI rest ((pc + len : Nat) : Int) && decide ((Int16.ofInt n).toInt32 = q)
  | .lconst n => am_pcI rest ((pc + len : Nat) : Int) && decide (Int64.ofNat (n : Nat) = q.toInt64)
  | .iinc n k => am_pcI rest ((pc + len : Nat) : Int) && decide (Int32.ofInt k = q) && decide (n < nL)
  | .istore n => am_pcI rest ((pc + len : Nat) : Int) && decide (n < nL)
  | .istore_n n => am_pcI rest ((pc + len : Nat) : Int) && decide (n.val < nL)
  | .astore_n n => am_pcI rest ((pc + len : Nat) : Int) && decide (n.val < nL)
  | .lstore n => am_pcI rest ((pc + len : Nat) : Int) && decide (n + 1 < nL)
  | .lstore_n n => am_pcI rest ((pc + len : Nat) : Int) && decide (n.val + 1 < nL)
  | _ => am_pcI rest ((pc + len : Nat) : Int)
def am_sw? : Instr → Bool
  | .tableswitch _ _ _ _ => true
  | .lookupswitch _ _ => true
  | _ => false
def am_chk (w : am_W) (rest : List am_W) : Bool := match w with
  | (pc, len, ins, aux, q) => (match ins with
    | .nop => (match aux with
      | i :: _ => am_pcI (am_drp i tb) ((pc : Nat) : Int)
      | _ => false)
    | ins => am_dck cc pc len ins && (am_sw? ins || len == am_il ins) && am_xck mt own tb nL rt pc len ins aux q rest)
def am_chks : List am_W → Bool
  | [] => true
  | w :: rest => am_chk mt own cc tb nL rt w rest && am_chks rest
end CHK
theorem am_chks_drp {mt : Nat → am_M} {own : String} {cc : ByteArray} {tb : List am_W} {nL : Nat} {rt : Option FieldType} : ∀ (i : Nat) (l : List am_W), am_chks mt own cc tb nL rt l = true → am_chks mt own cc tb nL rt (am_drp i l) = true := by
  intro i
  induction i with
  | zero => intro l h; exact h
  | succ i ih =>
    intro l h
    match l, h with
    | [], h => exact h
    | w :: l, h =>
      simp only [am_chks, Bool.and_eq_true] at h
      exact ih l h.2
theorem am_drp_succ {w : am_W} {rest : List am_W} : ∀ {i : Nat} {tb : List am_W}, am_drp i tb = w :: rest → rest = am_drp (i + 1) tb := by
  intro i
  induction i with
  | zero =>
    intro tb h
    match tb, h with
    | w' :: l, h => cases h; rfl
  | succ i ih =>
    intro tb h
    match tb, h with
    | w' :: l, h => exact ih (tb := l) h
