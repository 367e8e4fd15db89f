set_option maxRecDepth 100000 in
theorem kM_has : am_okE eM_has := ⟨by decide +kernel, by decide +kernel, rfl⟩
set_option maxRecDepth 100000 in
theorem kM_noHouse : am_okE eM_noHouse := ⟨by decide +kernel, by decide +kernel, rfl⟩
set_option maxRecDepth 100000 in
theorem kM_addRoom : am_okE eM_addRoom := ⟨by decide +kernel, by decide +kernel, rfl⟩
set_option maxRecDepth 100000 in
theorem kM_addDoor : am_okE eM_addDoor := ⟨by decide +kernel, by decide +kernel, rfl⟩
set_option maxRecDepth 100000 in
theorem kM_write : am_okE eM_write := ⟨by decide +kernel, by decide +kernel, rfl⟩
set_option maxRecDepth 100000 in
theorem kM_wipe : am_okE eM_wipe := ⟨by decide +kernel, by decide +kernel, rfl⟩
set_option maxRecDepth 100000 in
theorem kM_letterAt : am_okE eM_letterAt := ⟨by decide +kernel, by decide +kernel, rfl⟩
set_option maxRecDepth 100000 in
theorem kM_figures : am_okE eM_figures := ⟨by decide +kernel, by decide +kernel, rfl⟩
set_option maxRecDepth 100000 in
theorem kM_item : am_okE eM_item := ⟨by decide +kernel, by decide +kernel, rfl⟩
set_option maxRecDepth 100000 in
theorem kM_readAll : am_okE eM_readAll := ⟨by decide +kernel, by decide +kernel, rfl⟩
set_option maxRecDepth 100000 in
theorem kM_fault : am_okE eM_fault := ⟨by decide +kernel, by decide +kernel, rfl⟩
set_option maxRecDepth 100000 in
theorem kM_lay : am_okE eM_lay := ⟨by decide +kernel, by decide +kernel, rfl⟩
set_option maxRecDepth 100000 in
theorem kM_isRoom : am_okE eM_isRoom := ⟨by decide +kernel, by decide +kernel, rfl⟩
set_option maxRecDepth 100000 in
theorem kM_isDoor : am_okE eM_isDoor := ⟨by decide +kernel, by decide +kernel, rfl⟩
set_option maxRecDepth 100000 in
theorem kM_isPerson : am_okE eM_isPerson := ⟨by decide +kernel, by decide +kernel, rfl⟩
set_option maxRecDepth 100000 in
theorem kM_isThing : am_okE eM_isThing := ⟨by decide +kernel, by decide +kernel, rfl⟩
theorem am_kE6 : ∀ q ∈ am_E6, am_okE q := List.forall_mem_cons.mpr ⟨kM_has, List.forall_mem_cons.mpr ⟨kM_noHouse, List.forall_mem_cons.mpr ⟨kM_addRoom, List.forall_mem_cons.mpr ⟨kM_addDoor, List.forall_mem_cons.mpr ⟨kM_write, List.forall_mem_cons.mpr ⟨kM_wipe, List.forall_mem_cons.mpr ⟨kM_letterAt, List.forall_mem_cons.mpr ⟨kM_figures, List.forall_mem_cons.mpr ⟨kM_item, List.forall_mem_cons.mpr ⟨kM_readAll, List.forall_mem_cons.mpr ⟨kM_fault, List.forall_mem_cons.mpr ⟨kM_lay, List.forall_mem_cons.mpr ⟨kM_isRoom, List.forall_mem_cons.mpr ⟨kM_isDoor, List.forall_mem_cons.mpr ⟨kM_isPerson, List.forall_mem_cons.mpr ⟨kM_isThing, fun _ h => absurd h List.not_mem_nil⟩⟩⟩⟩⟩⟩⟩⟩⟩⟩⟩⟩⟩⟩⟩⟩
set_option maxRecDepth 100000 in
theorem kM_hourOf : am_okE eM_hourOf := ⟨by decide +kernel, by decide +kernel, rfl⟩
set_option maxRecDepth 100000 in
theorem kM_oldBy : am_okE eM_oldBy := ⟨by decide +kernel, by decide +kernel, rfl⟩
set_option maxRecDepth 100000 in
theorem kM_goBy : am_okE eM_goBy := ⟨by decide +kernel, by decide +kernel, rfl⟩
set_option maxRecDepth 100000 in
theorem kM_isBeside : am_okE eM_isBeside := ⟨by decide +kernel, by decide +kernel, rfl⟩
set_option maxRecDepth 100000 in
theorem kM_leadFrom : am_okE eM_leadFrom := ⟨by decide +kernel, by decide +kernel, rfl⟩
set_option maxRecDepth 100000 in
theorem kM_beyond : am_okE eM_beyond := ⟨by decide +kernel, by decide +kernel, rfl⟩
set_option maxRecDepth 100000 in
theorem kM_comeIn : am_okE eM_comeIn := ⟨by decide +kernel, by decide +kernel, rfl⟩
set_option maxRecDepth 100000 in
theorem kM_goDoor : am_okE eM_goDoor := ⟨by decide +kernel, by decide +kernel, rfl⟩
set_option maxRecDepth 100000 in
theorem kM_takeUp : am_okE eM_takeUp := ⟨by decide +kernel, by decide +kernel, rfl⟩
set_option maxRecDepth 100000 in
theorem kM_putDown : am_okE eM_putDown := ⟨by decide +kernel, by decide +kernel, rfl⟩
set_option maxRecDepth 100000 in
theorem kM_doAct : am_okE eM_doAct := ⟨by decide +kernel, by decide +kernel, rfl⟩
set_option maxRecDepth 100000 in
theorem kM_goAll : am_okE eM_goAll := ⟨by decide +kernel, by decide +kernel, rfl⟩
set_option maxRecDepth 100000 in
theorem kM_common : am_okE eM_common := ⟨by decide +kernel, by decide +kernel, rfl⟩
set_option maxRecDepth 100000 in
theorem kM_room : am_okE eM_room := ⟨by decide +kernel, by decide +kernel, rfl⟩
set_option maxRecDepth 100000 in
theorem kM_modulo : am_okE eM_modulo := ⟨by decide +kernel, by decide +kernel, rfl⟩
set_option maxRecDepth 100000 in
theorem kM_clock : am_okE eM_clock := ⟨by decide +kernel, by decide +kernel, rfl⟩
theorem am_kE7 : ∀ q ∈ am_E7, am_okE q := List.forall_mem_cons.mpr ⟨kM_hourOf, List.forall_mem_cons.mpr ⟨kM_oldBy, List.forall_mem_cons.mpr ⟨kM_goBy, List.forall_mem_cons.mpr ⟨kM_isBeside, List.forall_mem_cons.mpr ⟨kM_leadFrom, List.forall_mem_cons.mpr ⟨kM_beyond, List.forall_mem_cons.mpr ⟨kM_comeIn, List.forall_mem_cons.mpr ⟨kM_goDoor, List.forall_mem_cons.mpr ⟨kM_takeUp, List.forall_mem_cons.mpr ⟨kM_putDown, List.forall_mem_cons.mpr ⟨kM_doAct, List.forall_mem_cons.mpr ⟨kM_goAll, List.forall_mem_cons.mpr ⟨kM_common, List.forall_mem_cons.mpr ⟨kM_room, List.forall_mem_cons.mpr ⟨kM_modulo, List.forall_mem_cons.mpr ⟨kM_clock, fun _ h => absurd h List.not_mem_nil⟩⟩⟩⟩⟩⟩⟩⟩⟩⟩⟩⟩⟩⟩⟩⟩
set_option maxRecDepth 100000 in
theorem kM_door : am_okE eM_door := ⟨by decide +kernel, by decide +kernel, rfl⟩
set_option maxRecDepth 100000 in
theorem kM_thingsOf : am_okE eM_thingsOf := ⟨by decide +kernel, by decide +kernel, rfl⟩
set_option maxRecDepth 100000 in
theorem kM_person : am_okE eM_person := ⟨by decide +kernel, by decide +kernel, rfl⟩
set_option maxRecDepth 100000 in
theorem kM_thing : am_okE eM_thing := ⟨by decide +kernel, by decide +kernel, rfl⟩
set_option maxRecDepth 100000 in
theorem kM_worthOf : am_okE eM_worthOf := ⟨by decide +kernel, by decide +kernel, rfl⟩
set_option maxRecDepth 100000 in
theorem kM_worth : am_okE eM_worth := ⟨by decide +kernel, by decide +kernel, rfl⟩
set_option maxRecDepth 100000 in
theorem kM_note : am_okE eM_note := ⟨by decide +kernel, by decide +kernel, rfl⟩
set_option maxRecDepth 100000 in
theorem kM_bits : am_okE eM_bits := ⟨by decide +kernel, by decide +kernel, rfl⟩
set_option maxRecDepth 100000 in
theorem kM_stay : am_okE eM_stay := ⟨by decide +kernel, by decide +kernel, rfl⟩
set_option maxRecDepth 100000 in
theorem kM_go : am_okE eM_go := ⟨by decide +kernel, by decide +kernel, rfl⟩
set_option maxRecDepth 100000 in
theorem kM_take : am_okE eM_take := ⟨by decide +kernel, by decide +kernel, rfl⟩
set_option maxRecDepth 100000 in
theorem kM_put : am_okE eM_put := ⟨by decide +kernel, by decide +kernel, rfl⟩
set_option maxRecDepth 100000 in
theorem kM_undo : am_okE eM_undo := ⟨by decide +kernel, by decide +kernel, rfl⟩
set_option maxRecDepth 100000 in
theorem kM_meet : am_okE eM_meet := ⟨by decide +kernel, by decide +kernel, rfl⟩
set_option maxRecDepth 100000 in
theorem kM_costOf : am_okE eM_costOf := ⟨by decide +kernel, by decide +kernel, rfl⟩
set_option maxRecDepth 100000 in
theorem kM_layLow : am_okE eM_layLow := ⟨by decide +kernel, by decide +kernel, rfl⟩
theorem am_kE8 : ∀ q ∈ am_E8, am_okE q := List.forall_mem_cons.mpr ⟨kM_door, List.forall_mem_cons.mpr ⟨kM_thingsOf, List.forall_mem_cons.mpr ⟨kM_person, List.forall_mem_cons.mpr ⟨kM_thing, List.forall_mem_cons.mpr ⟨kM_worthOf, List.forall_mem_cons.mpr ⟨kM_worth, List.forall_mem_cons.mpr ⟨kM_note, List.forall_mem_cons.mpr ⟨kM_bits, List.forall_mem_cons.mpr ⟨kM_stay, List.forall_mem_cons.mpr ⟨kM_go, List.forall_mem_cons.mpr ⟨kM_take, List.forall_mem_cons.mpr ⟨kM_put, List.forall_mem_cons.mpr ⟨kM_undo, List.forall_mem_cons.mpr ⟨kM_meet, List.forall_mem_cons.mpr ⟨kM_costOf, List.forall_mem_cons.mpr ⟨kM_layLow, fun _ h => absurd h List.not_mem_nil⟩⟩⟩⟩⟩⟩⟩⟩⟩⟩⟩⟩⟩⟩⟩⟩
