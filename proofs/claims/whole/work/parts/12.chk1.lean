set_option maxRecDepth 100000 in
theorem kW_spread : am_okE eW_spread := ⟨by decide +kernel, by decide +kernel, rfl⟩
set_option maxRecDepth 100000 in
theorem kC_write : am_okE eC_write := ⟨by decide +kernel, by decide +kernel, rfl⟩
set_option maxRecDepth 100000 in
theorem kC_wipe : am_okE eC_wipe := ⟨by decide +kernel, by decide +kernel, rfl⟩
set_option maxRecDepth 100000 in
theorem kC_fault : am_okE eC_fault := ⟨by decide +kernel, by decide +kernel, rfl⟩
set_option maxRecDepth 100000 in
theorem kC_lay : am_okE eC_lay := ⟨by decide +kernel, by decide +kernel, rfl⟩
set_option maxRecDepth 100000 in
theorem kC_room : am_okE eC_room := ⟨by decide +kernel, by decide +kernel, rfl⟩
set_option maxRecDepth 100000 in
theorem kC_clock : am_okE eC_clock := ⟨by decide +kernel, by decide +kernel, rfl⟩
set_option maxRecDepth 100000 in
theorem kC_door : am_okE eC_door := ⟨by decide +kernel, by decide +kernel, rfl⟩
set_option maxRecDepth 100000 in
theorem kC_person : am_okE eC_person := ⟨by decide +kernel, by decide +kernel, rfl⟩
set_option maxRecDepth 100000 in
theorem kC_thing : am_okE eC_thing := ⟨by decide +kernel, by decide +kernel, rfl⟩
set_option maxRecDepth 100000 in
theorem kC_worth : am_okE eC_worth := ⟨by decide +kernel, by decide +kernel, rfl⟩
set_option maxRecDepth 100000 in
theorem kC_stay : am_okE eC_stay := ⟨by decide +kernel, by decide +kernel, rfl⟩
set_option maxRecDepth 100000 in
theorem kC_go : am_okE eC_go := ⟨by decide +kernel, by decide +kernel, rfl⟩
set_option maxRecDepth 100000 in
theorem kC_take : am_okE eC_take := ⟨by decide +kernel, by decide +kernel, rfl⟩
set_option maxRecDepth 100000 in
theorem kC_put : am_okE eC_put := ⟨by decide +kernel, by decide +kernel, rfl⟩
set_option maxRecDepth 100000 in
theorem kC_undo : am_okE eC_undo := ⟨by decide +kernel, by decide +kernel, rfl⟩
theorem am_kE3 : ∀ q ∈ am_E3, am_okE q := List.forall_mem_cons.mpr ⟨kW_spread, List.forall_mem_cons.mpr ⟨kC_write, List.forall_mem_cons.mpr ⟨kC_wipe, List.forall_mem_cons.mpr ⟨kC_fault, List.forall_mem_cons.mpr ⟨kC_lay, List.forall_mem_cons.mpr ⟨kC_room, List.forall_mem_cons.mpr ⟨kC_clock, List.forall_mem_cons.mpr ⟨kC_door, List.forall_mem_cons.mpr ⟨kC_person, List.forall_mem_cons.mpr ⟨kC_thing, List.forall_mem_cons.mpr ⟨kC_worth, List.forall_mem_cons.mpr ⟨kC_stay, List.forall_mem_cons.mpr ⟨kC_go, List.forall_mem_cons.mpr ⟨kC_take, List.forall_mem_cons.mpr ⟨kC_put, List.forall_mem_cons.mpr ⟨kC_undo, fun _ h => absurd h List.not_mem_nil⟩⟩⟩⟩⟩⟩⟩⟩⟩⟩⟩⟩⟩⟩⟩⟩
set_option maxRecDepth 100000 in
theorem kC_meet : am_okE eC_meet := ⟨by decide +kernel, by decide +kernel, rfl⟩
set_option maxRecDepth 100000 in
theorem kC_early : am_okE eC_early := ⟨by decide +kernel, by decide +kernel, rfl⟩
set_option maxRecDepth 100000 in
theorem kC_ring : am_okE eC_ring := ⟨by decide +kernel, by decide +kernel, rfl⟩
set_option maxRecDepth 100000 in
theorem kC_even : am_okE eC_even := ⟨by decide +kernel, by decide +kernel, rfl⟩
set_option maxRecDepth 100000 in
theorem kC_round : am_okE eC_round := ⟨by decide +kernel, by decide +kernel, rfl⟩
set_option maxRecDepth 100000 in
theorem kC_hour : am_okE eC_hour := ⟨by decide +kernel, by decide +kernel, rfl⟩
set_option maxRecDepth 100000 in
theorem kC_agreed : am_okE eC_agreed := ⟨by decide +kernel, by decide +kernel, rfl⟩
set_option maxRecDepth 100000 in
theorem kC_shelf : am_okE eC_shelf := ⟨by decide +kernel, by decide +kernel, rfl⟩
set_option maxRecDepth 100000 in
theorem kC_seen : am_okE eC_seen := ⟨by decide +kernel, by decide +kernel, rfl⟩
set_option maxRecDepth 100000 in
theorem kC_forget : am_okE eC_forget := ⟨by decide +kernel, by decide +kernel, rfl⟩
set_option maxRecDepth 100000 in
theorem kC_paces : am_okE eC_paces := ⟨by decide +kernel, by decide +kernel, rfl⟩
set_option maxRecDepth 100000 in
theorem kC_look : am_okE eC_look := ⟨by decide +kernel, by decide +kernel, rfl⟩
set_option maxRecDepth 100000 in
theorem kC_mended : am_okE eC_mended := ⟨by decide +kernel, by decide +kernel, rfl⟩
set_option maxRecDepth 100000 in
theorem kC_day : am_okE eC_day := ⟨by decide +kernel, by decide +kernel, rfl⟩
set_option maxRecDepth 100000 in
theorem kC_keep : am_okE eC_keep := ⟨by decide +kernel, by decide +kernel, rfl⟩
set_option maxRecDepth 100000 in
theorem kC_back : am_okE eC_back := ⟨by decide +kernel, by decide +kernel, rfl⟩
theorem am_kE4 : ∀ q ∈ am_E4, am_okE q := List.forall_mem_cons.mpr ⟨kC_meet, List.forall_mem_cons.mpr ⟨kC_early, List.forall_mem_cons.mpr ⟨kC_ring, List.forall_mem_cons.mpr ⟨kC_even, List.forall_mem_cons.mpr ⟨kC_round, List.forall_mem_cons.mpr ⟨kC_hour, List.forall_mem_cons.mpr ⟨kC_agreed, List.forall_mem_cons.mpr ⟨kC_shelf, List.forall_mem_cons.mpr ⟨kC_seen, List.forall_mem_cons.mpr ⟨kC_forget, List.forall_mem_cons.mpr ⟨kC_paces, List.forall_mem_cons.mpr ⟨kC_look, List.forall_mem_cons.mpr ⟨kC_mended, List.forall_mem_cons.mpr ⟨kC_day, List.forall_mem_cons.mpr ⟨kC_keep, List.forall_mem_cons.mpr ⟨kC_back, fun _ h => absurd h List.not_mem_nil⟩⟩⟩⟩⟩⟩⟩⟩⟩⟩⟩⟩⟩⟩⟩⟩
set_option maxRecDepth 100000 in
theorem kC_count : am_okE eC_count := ⟨by decide +kernel, by decide +kernel, rfl⟩
set_option maxRecDepth 100000 in
theorem kC_moveIn : am_okE eC_moveIn := ⟨by decide +kernel, by decide +kernel, rfl⟩
set_option maxRecDepth 100000 in
theorem kC_doAgain : am_okE eC_doAgain := ⟨by decide +kernel, by decide +kernel, rfl⟩
set_option maxRecDepth 100000 in
theorem kC_act : am_okE eC_act := ⟨by decide +kernel, by decide +kernel, rfl⟩
set_option maxRecDepth 100000 in
theorem kC_nextOwnHour : am_okE eC_nextOwnHour := ⟨by decide +kernel, by decide +kernel, rfl⟩
set_option maxRecDepth 100000 in
theorem kC_nextTick : am_okE eC_nextTick := ⟨by decide +kernel, by decide +kernel, rfl⟩
set_option maxRecDepth 100000 in
theorem kC_drawOf : am_okE eC_drawOf := ⟨by decide +kernel, by decide +kernel, rfl⟩
set_option maxRecDepth 100000 in
theorem kC_commonDivisor : am_okE eC_commonDivisor := ⟨by decide +kernel, by decide +kernel, rfl⟩
set_option maxRecDepth 100000 in
theorem kC_told : am_okE eC_told := ⟨by decide +kernel, by decide +kernel, rfl⟩
set_option maxRecDepth 100000 in
theorem kC_isOneOf : am_okE eC_isOneOf := ⟨by decide +kernel, by decide +kernel, rfl⟩
set_option maxRecDepth 100000 in
theorem kC_isTickToTell : am_okE eC_isTickToTell := ⟨by decide +kernel, by decide +kernel, rfl⟩
set_option maxRecDepth 100000 in
theorem kC_isRoom : am_okE eC_isRoom := ⟨by decide +kernel, by decide +kernel, rfl⟩
set_option maxRecDepth 100000 in
theorem kC_isDoor : am_okE eC_isDoor := ⟨by decide +kernel, by decide +kernel, rfl⟩
set_option maxRecDepth 100000 in
theorem kC_isPerson : am_okE eC_isPerson := ⟨by decide +kernel, by decide +kernel, rfl⟩
set_option maxRecDepth 100000 in
theorem kC_isThing : am_okE eC_isThing := ⟨by decide +kernel, by decide +kernel, rfl⟩
set_option maxRecDepth 100000 in
theorem kM_in : am_okE eM_in := ⟨by decide +kernel, by decide +kernel, rfl⟩
theorem am_kE5 : ∀ q ∈ am_E5, am_okE q := List.forall_mem_cons.mpr ⟨kC_count, List.forall_mem_cons.mpr ⟨kC_moveIn, List.forall_mem_cons.mpr ⟨kC_doAgain, List.forall_mem_cons.mpr ⟨kC_act, List.forall_mem_cons.mpr ⟨kC_nextOwnHour, List.forall_mem_cons.mpr ⟨kC_nextTick, List.forall_mem_cons.mpr ⟨kC_drawOf, List.forall_mem_cons.mpr ⟨kC_commonDivisor, List.forall_mem_cons.mpr ⟨kC_told, List.forall_mem_cons.mpr ⟨kC_isOneOf, List.forall_mem_cons.mpr ⟨kC_isTickToTell, List.forall_mem_cons.mpr ⟨kC_isRoom, List.forall_mem_cons.mpr ⟨kC_isDoor, List.forall_mem_cons.mpr ⟨kC_isPerson, List.forall_mem_cons.mpr ⟨kC_isThing, List.forall_mem_cons.mpr ⟨kM_in, fun _ h => absurd h List.not_mem_nil⟩⟩⟩⟩⟩⟩⟩⟩⟩⟩⟩⟩⟩⟩⟩⟩
