/-! THE LAW: what is checked of its rows, 3 -/
set_option maxHeartbeats 4000000 in
set_option maxRecDepth 100000 in
theorem law_ck6 : am_ckF cL_law 48 (am_drp 288 cL_law) = true := by decide +kernel
set_option maxHeartbeats 4000000 in
set_option maxRecDepth 100000 in
theorem law_ck7 : am_ckF cL_law 48 (am_drp 336 cL_law) = true := by decide +kernel
