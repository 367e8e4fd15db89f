set_option maxRecDepth 100000 in
theorem kM_early : am_okE eM_early := ⟨by decide +kernel, by decide +kernel, rfl⟩
set_option maxRecDepth 100000 in
theorem kM_ring : am_okE eM_ring := ⟨by decide +kernel, by decide +kernel, rfl⟩
set_option maxRecDepth 100000 in
theorem kM_even : am_okE eM_even := ⟨by decide +kernel, by decide +kernel, rfl⟩
set_option maxRecDepth 100000 in
theorem kM_layStays : am_okE eM_layStays := ⟨by decide +kernel, by decide +kernel, rfl⟩
set_option maxRecDepth 100000 in
theorem kM_round : am_okE eM_round := ⟨by decide +kernel, by decide +kernel, rfl⟩
set_option maxRecDepth 100000 in
theorem kM_hour : am_okE eM_hour := ⟨by decide +kernel, by decide +kernel, rfl⟩
set_option maxRecDepth 100000 in
theorem kM_agreed : am_okE eM_agreed := ⟨by decide +kernel, by decide +kernel, rfl⟩
set_option maxRecDepth 100000 in
theorem kM_shelf : am_okE eM_shelf := ⟨by decide +kernel, by decide +kernel, rfl⟩
set_option maxRecDepth 100000 in
theorem kM_seen : am_okE eM_seen := ⟨by decide +kernel, by decide +kernel, rfl⟩
set_option maxRecDepth 100000 in
theorem kM_forget : am_okE eM_forget := ⟨by decide +kernel, by decide +kernel, rfl⟩
set_option maxRecDepth 100000 in
theorem kM_onBy : am_okE eM_onBy := ⟨by decide +kernel, by decide +kernel, rfl⟩
set_option maxRecDepth 100000 in
theorem kM_pacesOf : am_okE eM_pacesOf := ⟨by decide +kernel, by decide +kernel, rfl⟩
set_option maxRecDepth 100000 in
theorem kM_paces : am_okE eM_paces := ⟨by decide +kernel, by decide +kernel, rfl⟩
set_option maxRecDepth 100000 in
theorem kM_look : am_okE eM_look := ⟨by decide +kernel, by decide +kernel, rfl⟩
set_option maxRecDepth 100000 in
theorem kM_mended : am_okE eM_mended := ⟨by decide +kernel, by decide +kernel, rfl⟩
set_option maxRecDepth 100000 in
theorem kM_day : am_okE eM_day := ⟨by decide +kernel, by decide +kernel, rfl⟩
theorem am_kE9 : ∀ q ∈ am_E9, am_okE q := List.forall_mem_cons.mpr ⟨kM_early, List.forall_mem_cons.mpr ⟨kM_ring, List.forall_mem_cons.mpr ⟨kM_even, List.forall_mem_cons.mpr ⟨kM_layStays, List.forall_mem_cons.mpr ⟨kM_round, List.forall_mem_cons.mpr ⟨kM_hour, List.forall_mem_cons.mpr ⟨kM_agreed, List.forall_mem_cons.mpr ⟨kM_shelf, List.forall_mem_cons.mpr ⟨kM_seen, List.forall_mem_cons.mpr ⟨kM_forget, List.forall_mem_cons.mpr ⟨kM_onBy, List.forall_mem_cons.mpr ⟨kM_pacesOf, List.forall_mem_cons.mpr ⟨kM_paces, List.forall_mem_cons.mpr ⟨kM_look, List.forall_mem_cons.mpr ⟨kM_mended, List.forall_mem_cons.mpr ⟨kM_day, fun _ h => absurd h List.not_mem_nil⟩⟩⟩⟩⟩⟩⟩⟩⟩⟩⟩⟩⟩⟩⟩⟩
set_option maxRecDepth 100000 in
theorem kM_copy : am_okE eM_copy := ⟨by decide +kernel, by decide +kernel, rfl⟩
set_option maxRecDepth 100000 in
theorem kM_keep : am_okE eM_keep := ⟨by decide +kernel, by decide +kernel, rfl⟩
set_option maxRecDepth 100000 in
theorem kM_back : am_okE eM_back := ⟨by decide +kernel, by decide +kernel, rfl⟩
set_option maxRecDepth 100000 in
theorem kM_count : am_okE eM_count := ⟨by decide +kernel, by decide +kernel, rfl⟩
set_option maxRecDepth 100000 in
theorem kJ_bitCount : am_okE eJ_bitCount := ⟨by decide +kernel, by decide +kernel, rfl⟩
set_option maxRecDepth 100000 in
theorem kJ_floorMod : am_okE eJ_floorMod := ⟨by decide +kernel, by decide +kernel, rfl⟩
set_option maxRecDepth 100000 in
theorem kJ_max : am_okE eJ_max := ⟨by decide +kernel, by decide +kernel, rfl⟩
set_option maxRecDepth 100000 in
theorem kJ_min : am_okE eJ_min := ⟨by decide +kernel, by decide +kernel, rfl⟩
set_option maxRecDepth 100000 in
theorem kJ_fill : am_okE eJ_fill := ⟨by decide +kernel, by decide +kernel, rfl⟩
theorem am_kE10 : ∀ q ∈ am_E10, am_okE q := List.forall_mem_cons.mpr ⟨kM_copy, List.forall_mem_cons.mpr ⟨kM_keep, List.forall_mem_cons.mpr ⟨kM_back, List.forall_mem_cons.mpr ⟨kM_count, List.forall_mem_cons.mpr ⟨kJ_bitCount, List.forall_mem_cons.mpr ⟨kJ_floorMod, List.forall_mem_cons.mpr ⟨kJ_max, List.forall_mem_cons.mpr ⟨kJ_min, List.forall_mem_cons.mpr ⟨kJ_fill, fun _ h => absurd h List.not_mem_nil⟩⟩⟩⟩⟩⟩⟩⟩⟩
