/-! THE LAW: what is checked of its rows, 4 -/
set_option maxHeartbeats 4000000 in
set_option maxRecDepth 100000 in
theorem law_ck8 : am_ckF cL_law 48 (am_drp 384 cL_law) = true := by decide +kernel
set_option maxHeartbeats 4000000 in
set_option maxRecDepth 100000 in
theorem law_ck9 : am_ckF cL_law 48 (am_drp 432 cL_law) = true := by decide +kernel
