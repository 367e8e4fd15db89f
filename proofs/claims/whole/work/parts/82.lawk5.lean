/-! THE LAW: what is checked of its rows, 5 -/
set_option maxHeartbeats 4000000 in
set_option maxRecDepth 100000 in
theorem law_ck10 : am_ckF cL_law 48 (am_drp 480 cL_law) = true := by decide +kernel
set_option maxHeartbeats 4000000 in
set_option maxRecDepth 100000 in
theorem law_ck11 : am_ckF cL_law 48 (am_drp 528 cL_law) = true := by decide +kernel
