set_option maxRecDepth 100000 in
theorem kA_add : am_okE eA_add := ⟨by decide +kernel, by decide +kernel, rfl⟩
set_option maxRecDepth 100000 in
theorem kA_copy : am_okE eA_copy := ⟨by decide +kernel, by decide +kernel, rfl⟩
set_option maxRecDepth 100000 in
theorem kK_begin : am_okE eK_begin := ⟨by decide +kernel, by decide +kernel, rfl⟩
set_option maxRecDepth 100000 in
theorem kK_perform : am_okE eK_perform := ⟨by decide +kernel, by decide +kernel, rfl⟩
set_option maxRecDepth 100000 in
theorem kK_canGo : am_okE eK_canGo := ⟨by decide +kernel, by decide +kernel, rfl⟩
set_option maxRecDepth 100000 in
theorem kK_canTake : am_okE eK_canTake := ⟨by decide +kernel, by decide +kernel, rfl⟩
set_option maxRecDepth 100000 in
theorem kK_canPut : am_okE eK_canPut := ⟨by decide +kernel, by decide +kernel, rfl⟩
set_option maxRecDepth 100000 in
theorem kK_pass : am_okE eK_pass := ⟨by decide +kernel, by decide +kernel, rfl⟩
set_option maxRecDepth 100000 in
theorem kK_cross : am_okE eK_cross := ⟨by decide +kernel, by decide +kernel, rfl⟩
set_option maxRecDepth 100000 in
theorem kK_enter : am_okE eK_enter := ⟨by decide +kernel, by decide +kernel, rfl⟩
set_option maxRecDepth 100000 in
theorem kK_pick : am_okE eK_pick := ⟨by decide +kernel, by decide +kernel, rfl⟩
set_option maxRecDepth 100000 in
theorem kK_drop : am_okE eK_drop := ⟨by decide +kernel, by decide +kernel, rfl⟩
set_option maxRecDepth 100000 in
theorem kK_hourTicksOf : am_okE eK_hourTicksOf := ⟨by decide +kernel, by decide +kernel, rfl⟩
set_option maxRecDepth 100000 in
theorem kK_partsOfTickIn : am_okE eK_partsOfTickIn := ⟨by decide +kernel, by decide +kernel, rfl⟩
set_option maxRecDepth 100000 in
theorem kK_wornAt : am_okE eK_wornAt := ⟨by decide +kernel, by decide +kernel, rfl⟩
set_option maxRecDepth 100000 in
theorem kK_thingsOf : am_okE eK_thingsOf := ⟨by decide +kernel, by decide +kernel, rfl⟩
theorem am_kE0 : ∀ q ∈ am_E0, am_okE q := List.forall_mem_cons.mpr ⟨kA_add, List.forall_mem_cons.mpr ⟨kA_copy, List.forall_mem_cons.mpr ⟨kK_begin, List.forall_mem_cons.mpr ⟨kK_perform, List.forall_mem_cons.mpr ⟨kK_canGo, List.forall_mem_cons.mpr ⟨kK_canTake, List.forall_mem_cons.mpr ⟨kK_canPut, List.forall_mem_cons.mpr ⟨kK_pass, List.forall_mem_cons.mpr ⟨kK_cross, List.forall_mem_cons.mpr ⟨kK_enter, List.forall_mem_cons.mpr ⟨kK_pick, List.forall_mem_cons.mpr ⟨kK_drop, List.forall_mem_cons.mpr ⟨kK_hourTicksOf, List.forall_mem_cons.mpr ⟨kK_partsOfTickIn, List.forall_mem_cons.mpr ⟨kK_wornAt, List.forall_mem_cons.mpr ⟨kK_thingsOf, fun _ h => absurd h List.not_mem_nil⟩⟩⟩⟩⟩⟩⟩⟩⟩⟩⟩⟩⟩⟩⟩⟩
set_option maxRecDepth 100000 in
theorem kK_visitsOf : am_okE eK_visitsOf := ⟨by decide +kernel, by decide +kernel, rfl⟩
set_option maxRecDepth 100000 in
theorem kK_firstShared : am_okE eK_firstShared := ⟨by decide +kernel, by decide +kernel, rfl⟩
set_option maxRecDepth 100000 in
theorem kH_readText : am_okE eH_readText := ⟨by decide +kernel, by decide +kernel, rfl⟩
set_option maxRecDepth 100000 in
theorem kH_readItem : am_okE eH_readItem := ⟨by decide +kernel, by decide +kernel, rfl⟩
set_option maxRecDepth 100000 in
theorem kH_numbersOf : am_okE eH_numbersOf := ⟨by decide +kernel, by decide +kernel, rfl⟩
set_option maxRecDepth 100000 in
theorem kH_figuresAt : am_okE eH_figuresAt := ⟨by decide +kernel, by decide +kernel, rfl⟩
set_option maxRecDepth 100000 in
theorem kH_numberAt : am_okE eH_numberAt := ⟨by decide +kernel, by decide +kernel, rfl⟩
set_option maxRecDepth 100000 in
theorem kH_addItem : am_okE eH_addItem := ⟨by decide +kernel, by decide +kernel, rfl⟩
set_option maxRecDepth 100000 in
theorem kH_addRoom : am_okE eH_addRoom := ⟨by decide +kernel, by decide +kernel, rfl⟩
set_option maxRecDepth 100000 in
theorem kH_addDoor : am_okE eH_addDoor := ⟨by decide +kernel, by decide +kernel, rfl⟩
set_option maxRecDepth 100000 in
theorem kH_addPerson : am_okE eH_addPerson := ⟨by decide +kernel, by decide +kernel, rfl⟩
set_option maxRecDepth 100000 in
theorem kH_addThing : am_okE eH_addThing := ⟨by decide +kernel, by decide +kernel, rfl⟩
set_option maxRecDepth 100000 in
theorem kH_setCrossing : am_okE eH_setCrossing := ⟨by decide +kernel, by decide +kernel, rfl⟩
set_option maxRecDepth 100000 in
theorem kH_isDoorOf : am_okE eH_isDoorOf := ⟨by decide +kernel, by decide +kernel, rfl⟩
set_option maxRecDepth 100000 in
theorem kH_behind : am_okE eH_behind := ⟨by decide +kernel, by decide +kernel, rfl⟩
set_option maxRecDepth 100000 in
theorem kH_leadTicks : am_okE eH_leadTicks := ⟨by decide +kernel, by decide +kernel, rfl⟩
theorem am_kE1 : ∀ q ∈ am_E1, am_okE q := List.forall_mem_cons.mpr ⟨kK_visitsOf, List.forall_mem_cons.mpr ⟨kK_firstShared, List.forall_mem_cons.mpr ⟨kH_readText, List.forall_mem_cons.mpr ⟨kH_readItem, List.forall_mem_cons.mpr ⟨kH_numbersOf, List.forall_mem_cons.mpr ⟨kH_figuresAt, List.forall_mem_cons.mpr ⟨kH_numberAt, List.forall_mem_cons.mpr ⟨kH_addItem, List.forall_mem_cons.mpr ⟨kH_addRoom, List.forall_mem_cons.mpr ⟨kH_addDoor, List.forall_mem_cons.mpr ⟨kH_addPerson, List.forall_mem_cons.mpr ⟨kH_addThing, List.forall_mem_cons.mpr ⟨kH_setCrossing, List.forall_mem_cons.mpr ⟨kH_isDoorOf, List.forall_mem_cons.mpr ⟨kH_behind, List.forall_mem_cons.mpr ⟨kH_leadTicks, fun _ h => absurd h List.not_mem_nil⟩⟩⟩⟩⟩⟩⟩⟩⟩⟩⟩⟩⟩⟩⟩⟩
set_option maxRecDepth 100000 in
theorem kH_ticksThrough : am_okE eH_ticksThrough := ⟨by decide +kernel, by decide +kernel, rfl⟩
set_option maxRecDepth 100000 in
theorem kH_worthOf : am_okE eH_worthOf := ⟨by decide +kernel, by decide +kernel, rfl⟩
set_option maxRecDepth 100000 in
theorem kS_add : am_okE eS_add := ⟨by decide +kernel, by decide +kernel, rfl⟩
set_option maxRecDepth 100000 in
theorem kS_pacesOf : am_okE eS_pacesOf := ⟨by decide +kernel, by decide +kernel, rfl⟩
set_option maxRecDepth 100000 in
theorem kS_isStillSo : am_okE eS_isStillSo := ⟨by decide +kernel, by decide +kernel, rfl⟩
set_option maxRecDepth 100000 in
theorem kS_mostAlike : am_okE eS_mostAlike := ⟨by decide +kernel, by decide +kernel, rfl⟩
set_option maxRecDepth 100000 in
theorem kS_shownBy : am_okE eS_shownBy := ⟨by decide +kernel, by decide +kernel, rfl⟩
set_option maxRecDepth 100000 in
theorem kT_goAll : am_okE eT_goAll := ⟨by decide +kernel, by decide +kernel, rfl⟩
set_option maxRecDepth 100000 in
theorem kT_step : am_okE eT_step := ⟨by decide +kernel, by decide +kernel, rfl⟩
set_option maxRecDepth 100000 in
theorem kT_leave : am_okE eT_leave := ⟨by decide +kernel, by decide +kernel, rfl⟩
set_option maxRecDepth 100000 in
theorem kT_stayOrNot : am_okE eT_stayOrNot := ⟨by decide +kernel, by decide +kernel, rfl⟩
set_option maxRecDepth 100000 in
theorem kT_noteDone : am_okE eT_noteDone := ⟨by decide +kernel, by decide +kernel, rfl⟩
set_option maxRecDepth 100000 in
theorem kW_begin : am_okE eW_begin := ⟨by decide +kernel, by decide +kernel, rfl⟩
set_option maxRecDepth 100000 in
theorem kW_step : am_okE eW_step := ⟨by decide +kernel, by decide +kernel, rfl⟩
set_option maxRecDepth 100000 in
theorem kW_offer : am_okE eW_offer := ⟨by decide +kernel, by decide +kernel, rfl⟩
set_option maxRecDepth 100000 in
theorem kW_isEven : am_okE eW_isEven := ⟨by decide +kernel, by decide +kernel, rfl⟩
theorem am_kE2 : ∀ q ∈ am_E2, am_okE q := List.forall_mem_cons.mpr ⟨kH_ticksThrough, List.forall_mem_cons.mpr ⟨kH_worthOf, List.forall_mem_cons.mpr ⟨kS_add, List.forall_mem_cons.mpr ⟨kS_pacesOf, List.forall_mem_cons.mpr ⟨kS_isStillSo, List.forall_mem_cons.mpr ⟨kS_mostAlike, List.forall_mem_cons.mpr ⟨kS_shownBy, List.forall_mem_cons.mpr ⟨kT_goAll, List.forall_mem_cons.mpr ⟨kT_step, List.forall_mem_cons.mpr ⟨kT_leave, List.forall_mem_cons.mpr ⟨kT_stayOrNot, List.forall_mem_cons.mpr ⟨kT_noteDone, List.forall_mem_cons.mpr ⟨kW_begin, List.forall_mem_cons.mpr ⟨kW_step, List.forall_mem_cons.mpr ⟨kW_offer, List.forall_mem_cons.mpr ⟨kW_isEven, fun _ h => absurd h List.not_mem_nil⟩⟩⟩⟩⟩⟩⟩⟩⟩⟩⟩⟩⟩⟩⟩⟩
