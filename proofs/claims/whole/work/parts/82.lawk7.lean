/-! THE LAW: what is checked of its rows, 7 -/
set_option maxHeartbeats 4000000 in
set_option maxRecDepth 100000 in
theorem law_ck14 : am_ckF cL_law 48 (am_drp 672 cL_law) = true := by decide +kernel
set_option maxHeartbeats 4000000 in
set_option maxRecDepth 100000 in
theorem law_ck15 : am_ckF cL_law 48 (am_drp 720 cL_law) = true := by decide +kernel
theorem law_ckA : am_chks am_mt "RoomsOfHoursLaw" code cL_law 4 (some .boolean) cL_law = true := by
  have e : am_chks am_mt "RoomsOfHoursLaw" code cL_law 4 (some .boolean) (am_drp 768 cL_law) = true := by decide +kernel
  have e := am_ckF_ok 48 (am_drp 720 cL_law) law_ck15 (by rw [am_drp_drp]; exact e)
  have e := am_ckF_ok 48 (am_drp 672 cL_law) law_ck14 (by rw [am_drp_drp]; exact e)
  have e := am_ckF_ok 48 (am_drp 624 cL_law) law_ck13 (by rw [am_drp_drp]; exact e)
  have e := am_ckF_ok 48 (am_drp 576 cL_law) law_ck12 (by rw [am_drp_drp]; exact e)
  have e := am_ckF_ok 48 (am_drp 528 cL_law) law_ck11 (by rw [am_drp_drp]; exact e)
  have e := am_ckF_ok 48 (am_drp 480 cL_law) law_ck10 (by rw [am_drp_drp]; exact e)
  have e := am_ckF_ok 48 (am_drp 432 cL_law) law_ck9 (by rw [am_drp_drp]; exact e)
  have e := am_ckF_ok 48 (am_drp 384 cL_law) law_ck8 (by rw [am_drp_drp]; exact e)
  have e := am_ckF_ok 48 (am_drp 336 cL_law) law_ck7 (by rw [am_drp_drp]; exact e)
  have e := am_ckF_ok 48 (am_drp 288 cL_law) law_ck6 (by rw [am_drp_drp]; exact e)
  have e := am_ckF_ok 48 (am_drp 240 cL_law) law_ck5 (by rw [am_drp_drp]; exact e)
  have e := am_ckF_ok 48 (am_drp 192 cL_law) law_ck4 (by rw [am_drp_drp]; exact e)
  have e := am_ckF_ok 48 (am_drp 144 cL_law) law_ck3 (by rw [am_drp_drp]; exact e)
  have e := am_ckF_ok 48 (am_drp 96 cL_law) law_ck2 (by rw [am_drp_drp]; exact e)
  have e := am_ckF_ok 48 (am_drp 48 cL_law) law_ck1 (by rw [am_drp_drp]; exact e)
  have e := am_ckF_ok 48 (am_drp 0 cL_law) law_ck0 (by rw [am_drp_drp]; exact e)
  exact e
