/-! THE LAW: what is checked of its rows, 1 -/
set_option maxHeartbeats 4000000 in
set_option maxRecDepth 100000 in
theorem law_ck2 : am_ckF cL_law 48 (am_drp 96 cL_law) = true := by decide +kernel
set_option maxHeartbeats 4000000 in
set_option maxRecDepth 100000 in
theorem law_ck3 : am_ckF cL_law 48 (am_drp 144 cL_law) = true := by decide +kernel
