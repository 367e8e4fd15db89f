/-! THE LAW: what is checked of its rows, 6 -/
set_option maxHeartbeats 4000000 in
set_option maxRecDepth 100000 in
theorem law_ck12 : am_ckF cL_law 48 (am_drp 576 cL_law) = true := by decide +kernel
set_option maxHeartbeats 4000000 in
set_option maxRecDepth 100000 in
theorem law_ck13 : am_ckF cL_law 48 (am_drp 624 cL_law) = true := by decide +kernel
