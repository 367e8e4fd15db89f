/-! CALLS as equations, the reference; by program -/
def rM_in (d n i : Nat) (ls : am_L) (h : am_H) : am_Z := am_run 0 (fun _ => 0) cM_in (am_g d) n i ls h
theorem gM_in (d : Nat) (y0 : Int64) (y2 : Int64) (y4 : Int64) (h : am_H) : am_g (d + 1) 95 [vl y0, vl y2, vl y4] h =
  if (lg_cmp y0 y2) < 0 then
    (some (h, some 0))
  else if 0 < (lg_cmp y0 y4) then
    (some (h, some 0))
  else some (h, some 1) := (am_g_run (tb := cM_in) rfl rfl (Nat.le_of_ble_eq_true rfl) rfl).trans (qM_in_0 (am_g d) 999999 y0 y2 y4 h)
def rM_has (d n i : Nat) (ls : am_L) (h : am_H) : am_Z := am_run 0 (fun _ => 0) cM_has (am_g d) n i ls h
theorem gM_has (d : Nat) (x0 : Int32) (x1 : Int32) (h : am_H) : am_g (d + 1) 96 [vi x0, vi x1] h =
  if ((x0 >>> (x1 &&& 31)) &&& 1) = 1 then
    (some (h, some 1))
  else some (h, some 0) := (am_g_run (tb := cM_has) rfl rfl (Nat.le_of_ble_eq_true rfl) rfl).trans (qM_has_0 (am_g d) 999999 x0 x1 h)
def rM_noHouse (d n i : Nat) (ls : am_L) (h : am_H) : am_Z := am_run 0 (fun _ => 0) cM_noHouse (am_g d) n i ls h
theorem gM_noHouse (d : Nat) (x1 : Int32) (h : am_H) : am_g (d + 1) 97 [vr 7 82, vi x1] h =
  am_b 2 x1 fun j1 =>
  am_b 2 x1 fun j2 =>
  am_b 2 x1 fun j3 =>
  am_b 2 x1 fun j4 =>
  am_b 2 x1 fun j5 =>
  some (am_up (am_up (am_up (am_up (am_up h 84 j1 0) 88 j2 0) 92 j3 0) 95 j4 0) 99 j5 1, none) := (am_g_run (tb := cM_noHouse) rfl rfl (Nat.le_of_ble_eq_true rfl) rfl).trans (qM_noHouse_0 (am_g d) 999999 x1 h)
def rM_addRoom (d n i : Nat) (ls : am_L) (h : am_H) : am_Z := am_run 0 (fun _ => 0) cM_addRoom (am_g d) n i ls h
theorem gM_addRoom (d : Nat) (x1 : Int32) (x2 : Int32) (x3 : Int32) (x4 : Int32) (h : am_H) : am_g (d + 1) 98 [vr 7 82, vi x1, vi x2, vi x3, vi x4] h =
  am_b 2 x1 fun j1 =>
  am_b 12 ((6 * x1) + (h 84 j1)) fun j2 =>
  am_b 2 x1 fun j3 =>
  am_b 12 ((6 * x1) + (h 84 j3)) fun j4 =>
  am_b 2 x1 fun j5 =>
  am_b 12 ((6 * x1) + (h 84 j5)) fun j6 =>
  am_b 2 x1 fun j7 =>
  am_b 2 x1 fun j8 =>
  some (am_up (am_up (am_up (am_up h 85 j2 x2) 86 j4 x3) 87 j6 x4) 84 j8 ((h 84 j7) + 1), none) := (am_g_run (tb := cM_addRoom) rfl rfl (Nat.le_of_ble_eq_true rfl) rfl).trans (qM_addRoom_0 (am_g d) 999999 x1 x2 x3 x4 h)
def rM_addDoor (d n i : Nat) (ls : am_L) (h : am_H) : am_Z := am_run 0 (fun _ => 0) cM_addDoor (am_g d) n i ls h
theorem gM_addDoor (d : Nat) (x1 : Int32) (x2 : Int32) (x3 : Int32) (x4 : Int32) (x5 : Int32) (h : am_H) : am_g (d + 1) 99 [vr 7 82, vi x1, vi x2, vi x3, vi x4, vi x5] h =
  am_b 2 x1 fun j1 =>
  am_b 16 ((8 * x1) + (h 88 j1)) fun j2 =>
  am_b 2 x1 fun j3 =>
  am_b 16 ((8 * x1) + (h 88 j3)) fun j4 =>
  am_b 2 x1 fun j5 =>
  if x4 = 0 then
    (am_b 16 ((8 * x1) + (h 88 j5)) fun j6 =>
    am_b 2 x1 fun j7 =>
    am_b 2 x1 fun j8 =>
    some (am_up (am_up (am_up (am_up h 89 j2 x2) 90 j4 x3) 91 j6 x5) 88 j8 ((h 88 j7) + 1), none))
  else am_b 16 ((8 * x1) + (h 88 j5)) fun j9 =>
  am_b 2 x1 fun j10 =>
  am_b 2 x1 fun j11 =>
  some (am_up (am_up (am_up (am_up h 89 j2 x2) 90 j4 x3) 91 j9 (-x5)) 88 j11 ((h 88 j10) + 1), none) := (am_g_run (tb := cM_addDoor) rfl rfl (Nat.le_of_ble_eq_true rfl) rfl).trans (qM_addDoor_0 (am_g d) 999999 x1 x2 x3 x4 x5 h)
def rM_write (d n i : Nat) (ls : am_L) (h : am_H) : am_Z := am_run 0 (fun _ => 0) cM_write (am_g d) n i ls h
theorem gM_write (d : Nat) (x1 : Int32) (h : am_H) : am_g (d + 1) 100 [vr 7 82, vi x1] h =
  am_r1 (am_g d 95 [vl (Int32.toInt64 x1), vl (Int32.toInt64 32), vl (Int32.toInt64 126)] h) fun h1 v2 =>
  if v2 = 0 then
    (some (h1, some (-1)))
  else if (h1 82 0) = 200 then
    (some (h1, some (-3)))
  else am_b 200 (h1 82 0) fun j3 =>
  some (am_up (am_up h1 83 j3 x1) 82 0 ((h1 82 0) + 1), some ((h1 82 0) + 1)) := (am_g_run (tb := cM_write) rfl rfl (Nat.le_of_ble_eq_true rfl) rfl).trans (qM_write_0 (am_g d) 999999 x1 h)
def rM_wipe (d n i : Nat) (ls : am_L) (h : am_H) : am_Z := am_run 0 (fun _ => 0) cM_wipe (am_g d) n i ls h
theorem gM_wipe (d : Nat)  (h : am_H) : am_g (d + 1) 101 [vr 7 82] h =
  some (am_up h 82 0 0, some (h 82 0)) := (am_g_run (tb := cM_wipe) rfl rfl (Nat.le_of_ble_eq_true rfl) rfl).trans (qM_wipe_0 (am_g d) 999999  h)
def rM_letterAt (d n i : Nat) (ls : am_L) (h : am_H) : am_Z := am_run 0 (fun _ => 0) cM_letterAt (am_g d) n i ls h
theorem gM_letterAt (d : Nat) (x1 : Int32) (h : am_H) : am_g (d + 1) 102 [vr 7 82, vi x1] h =
  if x1 < (h 82 0) then
    (am_b 200 x1 fun j1 =>
    some (h, some (h 83 j1)))
  else some (h, some 0) := (am_g_run (tb := cM_letterAt) rfl rfl (Nat.le_of_ble_eq_true rfl) rfl).trans (qM_letterAt_0 (am_g d) 999999 x1 h)
def rM_figures (d n i : Nat) (ls : am_L) (h : am_H) : am_Z := am_run 0 (fun _ => 0) cM_figures (am_g d) n i ls h
theorem gM_figures (d : Nat) (x1 : Int32) (h : am_H) : am_g (d + 1) 103 [vr 7 82, vi x1] h =
  rM_figures d 999999 3 [some (vr 7 82), some (vi x1), some (vi 0), none, none] h := (am_g_run (tb := cM_figures) rfl rfl (Nat.le_of_ble_eq_true rfl) rfl).trans (qM_figures_0 (am_g d) 999999 x1 h)
theorem tM_figures_3 (d n : Nat) (x1 : Int32) (x2 : Int32) (u3 : Option am_V) (u4 : Option am_V) (h : am_H) : rM_figures d (n + 1) 3 [some (vr 7 82), some (vi x1), some (vi x2), u3, u4] h =
  if x2 < x1 then
    (rM_figures d n 11 [some (vr 7 82), some (vi x1), some (vi x2), some (vi 0), some (vi 0)] h)
  else some (h, some 1) := qM_figures_3 (am_g d) n x1 x2 u3 u4 h
theorem tM_figures_11 (d n : Nat) (x1 : Int32) (x2 : Int32) (x3 : Int32) (x4 : Int32) (h : am_H) : rM_figures d (n + 1) 11 [some (vr 7 82), some (vi x1), some (vi x2), some (vi x3), some (vi x4)] h =
  am_r1 (am_g d 102 [vr 7 82, vi (h 82 27)] h) fun h1 v2 =>
  am_r1 (am_g d 95 [vl (Int32.toInt64 v2), vl (Int32.toInt64 48), vl (Int32.toInt64 57)] h1) fun h3 v4 =>
  if v4 = 0 then
    (am_r1 (am_g d 95 [vl (Int32.toInt64 x3), vl (Int32.toInt64 1), vl (Int32.toInt64 2)] h3) fun h5 v6 =>
    if v6 = 0 then
      (some (h5, some 0))
    else am_r1 (am_g d 102 [vr 7 82, vi (h5 82 27)] h5) fun h7 v8 =>
    if x2 < (x1 - 1) then
      (if v8 = 44 then
        (am_b 4 x2 fun j9 =>
        rM_figures d n 3 [some (vr 7 82), some (vi x1), some (vi (x2 + 1)), some (vi x3), some (vi x4)] (am_up (am_up h7 107 j9 x4) 82 27 ((h7 82 27) + 1)))
      else some (h7, some 0))
    else if v8 = 59 then
      (am_b 4 x2 fun j10 =>
      rM_figures d n 3 [some (vr 7 82), some (vi x1), some (vi (x2 + 1)), some (vi x3), some (vi x4)] (am_up (am_up h7 107 j10 x4) 82 27 ((h7 82 27) + 1)))
    else some (h7, some 0))
  else if x3 < 3 then
    (am_r1 (am_g d 102 [vr 7 82, vi (h3 82 27)] h3) fun h11 v12 =>
    rM_figures d n 11 [some (vr 7 82), some (vi x1), some (vi x2), some (vi (x3 + 1)), some (vi (((10 * x4) + v12) - 48))] (am_up h11 82 27 ((h11 82 27) + 1)))
  else am_r1 (am_g d 95 [vl (Int32.toInt64 x3), vl (Int32.toInt64 1), vl (Int32.toInt64 2)] h3) fun h13 v14 =>
  if v14 = 0 then
    (some (h13, some 0))
  else am_r1 (am_g d 102 [vr 7 82, vi (h13 82 27)] h13) fun h15 v16 =>
  if x2 < (x1 - 1) then
    (if v16 = 44 then
      (am_b 4 x2 fun j17 =>
      rM_figures d n 3 [some (vr 7 82), some (vi x1), some (vi (x2 + 1)), some (vi x3), some (vi x4)] (am_up (am_up h15 107 j17 x4) 82 27 ((h15 82 27) + 1)))
    else some (h15, some 0))
  else if v16 = 59 then
    (am_b 4 x2 fun j18 =>
    rM_figures d n 3 [some (vr 7 82), some (vi x1), some (vi (x2 + 1)), some (vi x3), some (vi x4)] (am_up (am_up h15 107 j18 x4) 82 27 ((h15 82 27) + 1)))
  else some (h15, some 0) := qM_figures_11 (am_g d) n x1 x2 x3 x4 h
def rM_item (d n i : Nat) (ls : am_L) (h : am_H) : am_Z := am_run 0 (fun _ => 0) cM_item (am_g d) n i ls h
theorem gM_item (d : Nat)  (h : am_H) : am_g (d + 1) 104 [vr 7 82] h =
  am_r1 (am_g d 102 [vr 7 82, vi (h 82 27)] h) fun h1 v2 =>
  if v2 = nI 100 then
    (am_r1 (am_g d 103 [vr 7 82, vi 4] (am_up h1 82 27 ((h1 82 27) + 1))) fun h3 v4 =>
    if v4 = 0 then
      (some (h3, some 0))
    else if (h3 88 1) = 8 then
      (some (h3, some 0))
    else if (h3 107 0) < (h3 84 1) then
      (if (h3 107 1) < (h3 84 1) then
        (if (h3 107 0) = (h3 107 1) then
          (some (h3, some 0))
        else if 1 < (h3 107 2) then
          (some (h3, some 0))
        else if 24 < (h3 107 3) then
          (some (h3, some 0))
        else am_r0 (am_g d 99 [vr 7 82, vi 1, vi (h3 107 0), vi (h3 107 1), vi (h3 107 2), vi (h3 107 3)] h3) fun h5 =>
        some (h5, some 1))
      else some (h3, some 0))
    else some (h3, some 0))
  else if v2 = nI 112 then
    (am_r1 (am_g d 103 [vr 7 82, vi 2] (am_up h1 82 27 ((h1 82 27) + 1))) fun h6 v7 =>
    if v7 = 0 then
      (some (h6, some 0))
    else if (h6 92 1) = 4 then
      (some (h6, some 0))
    else if (h6 107 0) < (h6 84 1) then
      (am_b 8 (4 + (h6 92 1)) fun j8 =>
      am_b 8 (4 + (h6 92 1)) fun j9 =>
      some (am_up (am_up (am_up h6 93 j8 (h6 107 0)) 94 j9 (h6 107 1)) 92 1 ((h6 92 1) + 1), some 1))
    else some (h6, some 0))
  else if v2 = nI 114 then
    (am_r1 (am_g d 103 [vr 7 82, vi 3] (am_up h1 82 27 ((h1 82 27) + 1))) fun h10 v11 =>
    if v11 = 0 then
      (some (h10, some 0))
    else if (h10 84 1) = 6 then
      (some (h10, some 0))
    else am_r1 (am_g d 95 [vl (Int32.toInt64 (h10 107 0)), vl (Int32.toInt64 1), vl (Int32.toInt64 4)] h10) fun h12 v13 =>
    if v13 = 0 then
      (some (h12, some 0))
    else am_r1 (am_g d 95 [vl (Int32.toInt64 (h12 107 1)), vl (Int32.toInt64 1), vl (Int32.toInt64 4)] h12) fun h14 v15 =>
    if v15 = 0 then
      (some (h14, some 0))
    else if 23 < (h14 107 2) then
      (some (h14, some 0))
    else am_r0 (am_g d 98 [vr 7 82, vi 1, vi (h14 107 0), vi (h14 107 1), vi (h14 107 2)] h14) fun h16 =>
    some (h16, some 1))
  else if v2 = nI 116 then
    (am_r1 (am_g d 103 [vr 7 82, vi 3] (am_up h1 82 27 ((h1 82 27) + 1))) fun h17 v18 =>
    if v18 = 0 then
      (some (h17, some 0))
    else if (h17 95 1) = 5 then
      (some (h17, some 0))
    else if (h17 107 0) < (h17 84 1) then
      (if 3 < (h17 107 1) then
        (some (h17, some 0))
      else if (h17 107 2) < 1 then
        (some (h17, some 0))
      else am_b 10 (5 + (h17 95 1)) fun j19 =>
      am_b 10 (5 + (h17 95 1)) fun j20 =>
      am_b 10 (5 + (h17 95 1)) fun j21 =>
      some (am_up (am_up (am_up (am_up h17 96 j19 (h17 107 0)) 97 j20 (h17 107 1)) 98 j21 (h17 107 2)) 95 1 ((h17 95 1) + 1), some 1))
    else some (h17, some 0))
  else if v2 = nI 119 then
    (am_r1 (am_g d 103 [vr 7 82, vi 1] (am_up h1 82 27 ((h1 82 27) + 1))) fun h22 v23 =>
    if v23 = 0 then
      (some (h22, some 0))
    else if 3 < (h22 107 0) then
      (some (h22, some 0))
    else some (am_up h22 99 1 (h22 107 0), some 1))
  else some (am_up h1 82 27 ((h1 82 27) + 1), some 0) := (am_g_run (tb := cM_item) rfl rfl (Nat.le_of_ble_eq_true rfl) rfl).trans (qM_item_0 (am_g d) 999999  h)
def rM_readAll (d n i : Nat) (ls : am_L) (h : am_H) : am_Z := am_run 0 (fun _ => 0) cM_readAll (am_g d) n i ls h
theorem gM_readAll (d : Nat)  (h : am_H) : am_g (d + 1) 105 [vr 7 82] h =
  am_r0 (am_g d 97 [vr 7 82, vi 1] h) fun h1 =>
  rM_readAll d 999999 7 [some (vr 7 82), none] (am_up h1 82 27 0) := (am_g_run (tb := cM_readAll) rfl rfl (Nat.le_of_ble_eq_true rfl) rfl).trans (qM_readAll_0 (am_g d) 999999  h)
theorem tM_readAll_7 (d n : Nat) (u1 : Option am_V) (h : am_H) : rM_readAll d (n + 1) 7 [some (vr 7 82), u1] h =
  if (h 82 27) < (h 82 0) then
    (am_r1 (am_g d 104 [vr 7 82] h) fun h1 v2 =>
    if v2 = 0 then
      (some (h1, some (h 82 27)))
    else rM_readAll d n 7 [some (vr 7 82), some (vi (h 82 27))] h1)
  else some (h, some (-4)) := qM_readAll_7 (am_g d) n u1 h
def rM_fault (d n i : Nat) (ls : am_L) (h : am_H) : am_Z := am_run 0 (fun _ => 0) cM_fault (am_g d) n i ls h
theorem gM_fault (d : Nat)  (h : am_H) : am_g (d + 1) 106 [vr 7 82] h =
  am_r1 (am_g d 105 [vr 7 82] h) fun h1 v2 =>
  some (h1, some v2) := (am_g_run (tb := cM_fault) rfl rfl (Nat.le_of_ble_eq_true rfl) rfl).trans (qM_fault_0 (am_g d) 999999  h)
def rM_lay (d n i : Nat) (ls : am_L) (h : am_H) : am_Z := am_run 0 (fun _ => 0) cM_lay (am_g d) n i ls h
theorem gM_lay (d : Nat)  (h : am_H) : am_g (d + 1) 107 [vr 7 82] h =
  am_r1 (am_g d 105 [vr 7 82] h) fun h1 v2 =>
  if v2 = (-4) then
    (if (h1 92 1) = 0 then
      (some (h1, some (-2)))
    else rM_lay d 999999 54 [some (vr 7 82), some (vi 0)] (am_up (am_up (am_up (am_up (am_up h1 84 0 (h1 84 1)) 88 0 (h1 88 1)) 92 0 (h1 92 1)) 95 0 (h1 95 1)) 99 0 (h1 99 1)))
  else some (h1, some (-2)) := (am_g_run (tb := cM_lay) rfl rfl (Nat.le_of_ble_eq_true rfl) rfl).trans (qM_lay_0 (am_g d) 999999  h)
theorem tM_lay_54 (d n : Nat) (x1 : Int32) (h : am_H) : rM_lay d (n + 1) 54 [some (vr 7 82), some (vi x1)] h =
  if x1 < 6 then
    (am_b 12 (6 + x1) fun j1 =>
    am_b 12 x1 fun j2 =>
    am_b 12 (6 + x1) fun j3 =>
    am_b 12 x1 fun j4 =>
    am_b 12 (6 + x1) fun j5 =>
    am_b 12 x1 fun j6 =>
    rM_lay d n 54 [some (vr 7 82), some (vi (x1 + 1))] (am_up (am_up (am_up h 85 j2 (h 85 j1)) 86 j4 (h 86 j3)) 87 j6 (h 87 j5)))
  else rM_lay d n 92 [some (vr 7 82), some (vi 0)] h := qM_lay_54 (am_g d) n x1 h
theorem tM_lay_92 (d n : Nat) (x1 : Int32) (h : am_H) : rM_lay d (n + 1) 92 [some (vr 7 82), some (vi x1)] h =
  if x1 < 8 then
    (am_b 16 (8 + x1) fun j1 =>
    am_b 16 x1 fun j2 =>
    am_b 16 (8 + x1) fun j3 =>
    am_b 16 x1 fun j4 =>
    am_b 16 (8 + x1) fun j5 =>
    am_b 16 x1 fun j6 =>
    rM_lay d n 92 [some (vr 7 82), some (vi (x1 + 1))] (am_up (am_up (am_up h 89 j2 (h 89 j1)) 90 j4 (h 90 j3)) 91 j6 (h 91 j5)))
  else rM_lay d n 130 [some (vr 7 82), some (vi 0)] h := qM_lay_92 (am_g d) n x1 h
theorem tM_lay_130 (d n : Nat) (x1 : Int32) (h : am_H) : rM_lay d (n + 1) 130 [some (vr 7 82), some (vi x1)] h =
  if x1 < 4 then
    (am_b 8 (4 + x1) fun j1 =>
    am_b 8 x1 fun j2 =>
    am_b 8 (4 + x1) fun j3 =>
    am_b 8 x1 fun j4 =>
    rM_lay d n 130 [some (vr 7 82), some (vi (x1 + 1))] (am_up (am_up h 93 j2 (h 93 j1)) 94 j4 (h 94 j3)))
  else rM_lay d n 158 [some (vr 7 82), some (vi 0)] h := qM_lay_130 (am_g d) n x1 h
theorem tM_lay_158 (d n : Nat) (x1 : Int32) (h : am_H) : rM_lay d (n + 1) 158 [some (vr 7 82), some (vi x1)] h =
  if x1 < 5 then
    (am_b 10 (5 + x1) fun j1 =>
    am_b 10 x1 fun j2 =>
    am_b 10 (5 + x1) fun j3 =>
    am_b 10 x1 fun j4 =>
    am_b 10 (5 + x1) fun j5 =>
    am_b 10 x1 fun j6 =>
    rM_lay d n 158 [some (vr 7 82), some (vi (x1 + 1))] (am_up (am_up (am_up h 96 j2 (h 96 j1)) 97 j4 (h 97 j3)) 98 j6 (h 98 j5)))
  else am_r0 (am_g d 123 [vr 7 82] (am_up (am_up (am_up h 100 0 0) 82 22 0) 82 23 0)) fun h7 =>
  some (h7, some (h7 84 0)) := qM_lay_158 (am_g d) n x1 h
def rM_isRoom (d n i : Nat) (ls : am_L) (h : am_H) : am_Z := am_run 0 (fun _ => 0) cM_isRoom (am_g d) n i ls h
theorem gM_isRoom (d : Nat) (x1 : Int32) (h : am_H) : am_g (d + 1) 108 [vr 7 82, vi x1] h =
  am_r1 (am_g d 95 [vl (Int32.toInt64 x1), vl (Int32.toInt64 0), vl (Int32.toInt64 ((h 84 0) - 1))] h) fun h1 v2 =>
  if v2 &&& 1 = v2 then some (h1, some v2) else none := (am_g_run (tb := cM_isRoom) rfl rfl (Nat.le_of_ble_eq_true rfl) rfl).trans (qM_isRoom_0 (am_g d) 999999 x1 h)
def rM_isDoor (d n i : Nat) (ls : am_L) (h : am_H) : am_Z := am_run 0 (fun _ => 0) cM_isDoor (am_g d) n i ls h
theorem gM_isDoor (d : Nat) (x1 : Int32) (h : am_H) : am_g (d + 1) 109 [vr 7 82, vi x1] h =
  am_r1 (am_g d 95 [vl (Int32.toInt64 x1), vl (Int32.toInt64 0), vl (Int32.toInt64 ((h 88 0) - 1))] h) fun h1 v2 =>
  if v2 &&& 1 = v2 then some (h1, some v2) else none := (am_g_run (tb := cM_isDoor) rfl rfl (Nat.le_of_ble_eq_true rfl) rfl).trans (qM_isDoor_0 (am_g d) 999999 x1 h)
def rM_isPerson (d n i : Nat) (ls : am_L) (h : am_H) : am_Z := am_run 0 (fun _ => 0) cM_isPerson (am_g d) n i ls h
theorem gM_isPerson (d : Nat) (x1 : Int32) (h : am_H) : am_g (d + 1) 110 [vr 7 82, vi x1] h =
  am_r1 (am_g d 95 [vl (Int32.toInt64 x1), vl (Int32.toInt64 0), vl (Int32.toInt64 ((h 92 0) - 1))] h) fun h1 v2 =>
  if v2 &&& 1 = v2 then some (h1, some v2) else none := (am_g_run (tb := cM_isPerson) rfl rfl (Nat.le_of_ble_eq_true rfl) rfl).trans (qM_isPerson_0 (am_g d) 999999 x1 h)
def rM_isThing (d n i : Nat) (ls : am_L) (h : am_H) : am_Z := am_run 0 (fun _ => 0) cM_isThing (am_g d) n i ls h
theorem gM_isThing (d : Nat) (x1 : Int32) (h : am_H) : am_g (d + 1) 111 [vr 7 82, vi x1] h =
  am_r1 (am_g d 95 [vl (Int32.toInt64 x1), vl (Int32.toInt64 0), vl (Int32.toInt64 ((h 95 0) - 1))] h) fun h1 v2 =>
  if v2 &&& 1 = v2 then some (h1, some v2) else none := (am_g_run (tb := cM_isThing) rfl rfl (Nat.le_of_ble_eq_true rfl) rfl).trans (qM_isThing_0 (am_g d) 999999 x1 h)
def rM_hourOf (d n i : Nat) (ls : am_L) (h : am_H) : am_Z := am_run 0 (fun _ => 0) cM_hourOf (am_g d) n i ls h
theorem gM_hourOf (d : Nat) (x1 : Int32) (h : am_H) : am_g (d + 1) 112 [vr 7 82, vi x1] h =
  am_b 12 x1 fun j1 =>
  am_b 12 x1 fun j2 =>
  if h 85 j2 = 0 then none else
  some (h, some ((12 * (h 86 j1)) / (h 85 j2))) := (am_g_run (tb := cM_hourOf) rfl rfl (Nat.le_of_ble_eq_true rfl) rfl).trans (qM_hourOf_0 (am_g d) 999999 x1 h)
def rM_oldBy (d n i : Nat) (ls : am_L) (h : am_H) : am_Z := am_run 0 (fun _ => 0) cM_oldBy (am_g d) n i ls h
theorem gM_oldBy (d : Nat) (x1 : Int32) (x2 : Int32) (h : am_H) : am_g (d + 1) 113 [vr 7 82, vi x1, vi x2] h =
  am_b 12 x1 fun j1 =>
  am_b 12 x1 fun j2 =>
  if h 86 j2 = 0 then none else
  some (h, some ((x2 * (h 85 j1)) * (12 / (h 86 j2)))) := (am_g_run (tb := cM_oldBy) rfl rfl (Nat.le_of_ble_eq_true rfl) rfl).trans (qM_oldBy_0 (am_g d) 999999 x1 x2 h)
def rM_goBy (d n i : Nat) (ls : am_L) (h : am_H) : am_Z := am_run 0 (fun _ => 0) cM_goBy (am_g d) n i ls h
theorem gM_goBy (d : Nat) (x1 : Int32) (x2 : Int32) (h : am_H) : am_g (d + 1) 114 [vr 7 82, vi x1, vi x2] h =
  am_b 4 x1 fun j1 =>
  am_b 4 x1 fun j2 =>
  am_r1 (am_g d 112 [vr 7 82, vi (h 108 j2)] h) fun h3 v4 =>
  am_b 4 x1 fun j5 =>
  am_b 4 x1 fun j6 =>
  am_b 4 x1 fun j7 =>
  rM_goBy d 999999 26 [some (vr 7 82), some (vi x1), some (vi x2), some (vi 0)] (am_up (am_up h3 109 j5 ((h 109 j1) + (x2 * v4))) 110 j7 ((h3 110 j6) + x2)) := (am_g_run (tb := cM_goBy) rfl rfl (Nat.le_of_ble_eq_true rfl) rfl).trans (qM_goBy_0 (am_g d) 999999 x1 x2 h)
theorem tM_goBy_26 (d n : Nat) (x1 : Int32) (x2 : Int32) (x3 : Int32) (h : am_H) : rM_goBy d (n + 1) 26 [some (vr 7 82), some (vi x1), some (vi x2), some (vi x3)] h =
  if x3 < (h 95 0) then
    (am_b 5 x3 fun j1 =>
    am_b 5 x3 fun j2 =>
    if (h 112 j2) = x1 then
      (am_b 5 x3 fun j3 =>
      rM_goBy d n 26 [some (vr 7 82), some (vi x1), some (vi x2), some (vi (x3 + 1))] (am_up h 114 j3 ((h 114 j1) + (144 * x2))))
    else am_b 5 x3 fun j4 =>
    rM_goBy d n 26 [some (vr 7 82), some (vi x1), some (vi x2), some (vi (x3 + 1))] (am_up h 114 j4 ((h 114 j1) + 0)))
  else am_b 4 x1 fun j5 =>
  am_b 4 x1 fun j6 =>
  am_b 164 (((41 * x1) + (h 115 j5)) - 1) fun j7 =>
  some (am_up h 118 j7 (h 109 j6), none) := qM_goBy_26 (am_g d) n x1 x2 x3 h
def rM_isBeside (d n i : Nat) (ls : am_L) (h : am_H) : am_Z := am_run 0 (fun _ => 0) cM_isBeside (am_g d) n i ls h
theorem gM_isBeside (d : Nat) (x1 : Int32) (x2 : Int32) (h : am_H) : am_g (d + 1) 115 [vr 7 82, vi x1, vi x2] h =
  am_b 16 x1 fun j1 =>
  if (h 89 j1) = x2 then
    (some (h, some 1))
  else am_b 16 x1 fun j2 =>
  if (h 90 j2) = x2 then
    (some (h, some 1))
  else some (h, some 0) := (am_g_run (tb := cM_isBeside) rfl rfl (Nat.le_of_ble_eq_true rfl) rfl).trans (qM_isBeside_0 (am_g d) 999999 x1 x2 h)
def rM_leadFrom (d n i : Nat) (ls : am_L) (h : am_H) : am_Z := am_run 0 (fun _ => 0) cM_leadFrom (am_g d) n i ls h
theorem gM_leadFrom (d : Nat) (x1 : Int32) (x2 : Int32) (h : am_H) : am_g (d + 1) 116 [vr 7 82, vi x1, vi x2] h =
  am_b 16 x1 fun j1 =>
  if (h 89 j1) = x2 then
    (am_b 16 x1 fun j2 =>
    some (h, some (h 91 j2)))
  else am_b 16 x1 fun j3 =>
  some (h, some (-(h 91 j3))) := (am_g_run (tb := cM_leadFrom) rfl rfl (Nat.le_of_ble_eq_true rfl) rfl).trans (qM_leadFrom_0 (am_g d) 999999 x1 x2 h)
def rM_beyond (d n i : Nat) (ls : am_L) (h : am_H) : am_Z := am_run 0 (fun _ => 0) cM_beyond (am_g d) n i ls h
theorem gM_beyond (d : Nat) (x1 : Int32) (x2 : Int32) (h : am_H) : am_g (d + 1) 117 [vr 7 82, vi x1, vi x2] h =
  am_b 16 x1 fun j1 =>
  if (h 89 j1) = x2 then
    (am_b 16 x1 fun j2 =>
    some (h, some (h 90 j2)))
  else am_b 16 x1 fun j3 =>
  some (h, some (h 89 j3)) := (am_g_run (tb := cM_beyond) rfl rfl (Nat.le_of_ble_eq_true rfl) rfl).trans (qM_beyond_0 (am_g d) 999999 x1 x2 h)
def rM_comeIn (d n i : Nat) (ls : am_L) (h : am_H) : am_Z := am_run 0 (fun _ => 0) cM_comeIn (am_g d) n i ls h
theorem gM_comeIn (d : Nat) (x1 : Int32) (x2 : Int32) (h : am_H) : am_g (d + 1) 118 [vr 7 82, vi x1, vi x2] h =
  am_b 4 x1 fun j1 =>
  am_b 4 x1 fun j2 =>
  am_b 164 ((41 * x1) + (h 115 j1)) fun j3 =>
  am_b 4 x1 fun j4 =>
  am_b 164 ((41 * x1) + (h 115 j1)) fun j5 =>
  am_b 4 x1 fun j6 =>
  am_b 164 ((41 * x1) + (h 115 j1)) fun j7 =>
  am_b 4 x1 fun j8 =>
  am_b 4 x1 fun j9 =>
  some (am_up (am_up (am_up (am_up (am_up h 108 j2 x2) 116 j3 x2) 117 j5 (h 109 j4)) 118 j7 (h 109 j6)) 115 j9 ((h 115 j8) + 1), none) := (am_g_run (tb := cM_comeIn) rfl rfl (Nat.le_of_ble_eq_true rfl) rfl).trans (qM_comeIn_0 (am_g d) 999999 x1 x2 h)
def rM_goDoor (d n i : Nat) (ls : am_L) (h : am_H) : am_Z := am_run 0 (fun _ => 0) cM_goDoor (am_g d) n i ls h
theorem gM_goDoor (d : Nat) (x1 : Int32) (x2 : Int32) (h : am_H) : am_g (d + 1) 119 [vr 7 82, vi x1, vi x2] h =
  am_b 4 x1 fun j1 =>
  am_r1 (am_g d 115 [vr 7 82, vi x2, vi (h 108 j1)] h) fun h2 v3 =>
  if v3 = 0 then
    (some (h2, some 0))
  else am_r0 (am_g d 114 [vr 7 82, vi x1, vi (h2 99 0)] h2) fun h4 =>
  am_b 4 x1 fun j5 =>
  am_b 4 x1 fun j6 =>
  am_r1 (am_g d 116 [vr 7 82, vi x2, vi (h4 108 j5)] h4) fun h7 v8 =>
  am_b 4 x1 fun j9 =>
  am_r1 (am_g d 117 [vr 7 82, vi x2, vi (h4 108 j5)] (am_up h7 109 j9 ((h4 109 j6) + (12 * v8)))) fun h10 v11 =>
  am_r0 (am_g d 118 [vr 7 82, vi x1, vi v11] h10) fun h12 =>
  some (h12, some 1) := (am_g_run (tb := cM_goDoor) rfl rfl (Nat.le_of_ble_eq_true rfl) rfl).trans (qM_goDoor_0 (am_g d) 999999 x1 x2 h)
def rM_takeUp (d n i : Nat) (ls : am_L) (h : am_H) : am_Z := am_run 0 (fun _ => 0) cM_takeUp (am_g d) n i ls h
theorem gM_takeUp (d : Nat) (x1 : Int32) (x2 : Int32) (h : am_H) : am_g (d + 1) 120 [vr 7 82, vi x1, vi x2] h =
  am_b 5 x2 fun j1 =>
  am_b 4 x1 fun j2 =>
  if (h 111 j1) = (h 108 j2) then
    (am_b 5 x2 fun j3 =>
    am_b 4 x1 fun j4 =>
    if (h 109 j4) < (h 113 j3) then
      (some (h, some 0))
    else am_b 5 x2 fun j5 =>
    am_b 4 x1 fun j6 =>
    am_b 4 x1 fun j7 =>
    am_b 5 x2 fun j8 =>
    am_r1 (am_g d 113 [vr 7 82, vi (h 108 j6), vi ((h 109 j7) - (h 113 j8))] h) fun h9 v10 =>
    am_b 5 x2 fun j11 =>
    am_b 5 x2 fun j12 =>
    am_b 5 x2 fun j13 =>
    some (am_up (am_up (am_up h9 114 j11 ((h 114 j5) + v10)) 111 j12 (-4)) 112 j13 x1, some 1))
  else some (h, some 0) := (am_g_run (tb := cM_takeUp) rfl rfl (Nat.le_of_ble_eq_true rfl) rfl).trans (qM_takeUp_0 (am_g d) 999999 x1 x2 h)
def rM_putDown (d n i : Nat) (ls : am_L) (h : am_H) : am_Z := am_run 0 (fun _ => 0) cM_putDown (am_g d) n i ls h
theorem gM_putDown (d : Nat) (x1 : Int32) (x2 : Int32) (h : am_H) : am_g (d + 1) 121 [vr 7 82, vi x1, vi x2] h =
  am_b 5 x2 fun j1 =>
  if (h 112 j1) = x1 then
    (am_b 5 x2 fun j2 =>
    am_b 4 x1 fun j3 =>
    am_b 5 x2 fun j4 =>
    am_b 4 x1 fun j5 =>
    am_b 5 x2 fun j6 =>
    some (am_up (am_up (am_up h 112 j2 (-4)) 111 j4 (h 108 j3)) 113 j6 (h 109 j5), some 1))
  else some (h, some 0) := (am_g_run (tb := cM_putDown) rfl rfl (Nat.le_of_ble_eq_true rfl) rfl).trans (qM_putDown_0 (am_g d) 999999 x1 x2 h)
def rM_doAct (d n i : Nat) (ls : am_L) (h : am_H) : am_Z := am_run 0 (fun _ => 0) cM_doAct (am_g d) n i ls h
theorem gM_doAct (d : Nat) (x1 : Int32) (x2 : Int32) (x3 : Int32) (h : am_H) : am_g (d + 1) 122 [vr 7 82, vi x1, vi x2, vi x3] h =
  if x1 = nI 0 then
    (am_r0 (am_g d 114 [vr 7 82, vi x2, vi x3] h) fun h1 =>
    some (h1, some 1))
  else if x1 = nI 1 then
    (am_r1 (am_g d 119 [vr 7 82, vi x2, vi x3] h) fun h2 v3 =>
    if v3 &&& 1 = v3 then some (h2, some v3) else none)
  else if x1 = nI 2 then
    (am_r1 (am_g d 120 [vr 7 82, vi x2, vi x3] h) fun h4 v5 =>
    if v5 &&& 1 = v5 then some (h4, some v5) else none)
  else am_r1 (am_g d 121 [vr 7 82, vi x2, vi x3] h) fun h6 v7 =>
  if v7 &&& 1 = v7 then some (h6, some v7) else none := (am_g_run (tb := cM_doAct) rfl rfl (Nat.le_of_ble_eq_true rfl) rfl).trans (qM_doAct_0 (am_g d) 999999 x1 x2 x3 h)
def rM_goAll (d n i : Nat) (ls : am_L) (h : am_H) : am_Z := am_run 0 (fun _ => 0) cM_goAll (am_g d) n i ls h
theorem gM_goAll (d : Nat)  (h : am_H) : am_g (d + 1) 123 [vr 7 82] h =
  rM_goAll d 999999 3 [some (vr 7 82), some (vi 0)] h := (am_g_run (tb := cM_goAll) rfl rfl (Nat.le_of_ble_eq_true rfl) rfl).trans (qM_goAll_0 (am_g d) 999999  h)
theorem tM_goAll_3 (d n : Nat) (x1 : Int32) (h : am_H) : rM_goAll d (n + 1) 3 [some (vr 7 82), some (vi x1)] h =
  if x1 < (h 92 0) then
    (am_b 4 x1 fun j1 =>
    am_b 8 x1 fun j2 =>
    am_b 4 x1 fun j3 =>
    am_b 4 x1 fun j4 =>
    am_b 8 x1 fun j5 =>
    am_r0 (am_g d 118 [vr 7 82, vi x1, vi (h 93 j5)] (am_up (am_up (am_up h 109 j1 0) 110 j3 (h 94 j2)) 115 j4 0)) fun h6 =>
    rM_goAll d n 3 [some (vr 7 82), some (vi (x1 + 1))] h6)
  else rM_goAll d n 39 [some (vr 7 82), some (vi 0)] h := qM_goAll_3 (am_g d) n x1 h
theorem tM_goAll_39 (d n : Nat) (x1 : Int32) (h : am_H) : rM_goAll d (n + 1) 39 [some (vr 7 82), some (vi x1)] h =
  if x1 < (h 95 0) then
    (am_b 10 x1 fun j1 =>
    am_b 5 x1 fun j2 =>
    am_b 5 x1 fun j3 =>
    am_b 5 x1 fun j4 =>
    am_b 5 x1 fun j5 =>
    rM_goAll d n 39 [some (vr 7 82), some (vi (x1 + 1))] (am_up (am_up (am_up (am_up h 111 j2 (h 96 j1)) 112 j3 (-4)) 113 j4 0) 114 j5 0))
  else rM_goAll d n 73 [some (vr 7 82), some (vi 0)] h := qM_goAll_39 (am_g d) n x1 h
theorem tM_goAll_73 (d n : Nat) (x1 : Int32) (h : am_H) : rM_goAll d (n + 1) 73 [some (vr 7 82), some (vi x1)] h =
  if x1 < (h 100 0) then
    (am_b 120 x1 fun j1 =>
    am_b 120 x1 fun j2 =>
    am_b 120 x1 fun j3 =>
    am_r1 (am_g d 122 [vr 7 82, vi (h 101 j1), vi (h 102 j2), vi (h 103 j3)] h) fun h4 v5 =>
    rM_goAll d n 73 [some (vr 7 82), some (vi (x1 + 1))] h4)
  else some (h, none) := qM_goAll_73 (am_g d) n x1 h
def rM_common (d n i : Nat) (ls : am_L) (h : am_H) : am_Z := am_run 0 (fun _ => 0) cM_common (am_g d) n i ls h
theorem gM_common (d : Nat) (x0 : Int32) (x1 : Int32) (h : am_H) : am_g (d + 1) 124 [vi x0, vi x1] h =
  rM_common d 999999 5 [some (vi x0), some (vi x1), some (vi x0), some (vi x1), none] h := (am_g_run (tb := cM_common) rfl rfl (Nat.le_of_ble_eq_true rfl) rfl).trans (qM_common_0 (am_g d) 999999 x0 x1 h)
theorem tM_common_5 (d n : Nat) (x0 : Int32) (x1 : Int32) (x2 : Int32) (x3 : Int32) (u4 : Option am_V) (h : am_H) : rM_common d (n + 1) 5 [some (vi x0), some (vi x1), some (vi x2), some (vi x3), u4] h =
  if x3 = 0 then
    (some (h, some x2))
  else if x3 = 0 then none else
  rM_common d n 5 [some (vi x0), some (vi x1), some (vi x3), some (vi (am_rem x2 x3)), some (vi (am_rem x2 x3))] h := qM_common_5 (am_g d) n x0 x1 x2 x3 u4 h
def rM_room (d n i : Nat) (ls : am_L) (h : am_H) : am_Z := am_run 0 (fun _ => 0) cM_room (am_g d) n i ls h
theorem gM_room (d : Nat) (x1 : Int32) (x2 : Int32) (h : am_H) : am_g (d + 1) 125 [vr 7 82, vi x1, vi x2] h =
  am_r1 (am_g d 108 [vr 7 82, vi x1] h) fun h1 v2 =>
  if v2 = 0 then
    (some (h1, some (-1)))
  else am_r1 (am_g d 95 [vl (Int32.toInt64 x2), vl (Int32.toInt64 0), vl (Int32.toInt64 3)] h1) fun h3 v4 =>
  if v4 = 0 then
    (some (h3, some (-1)))
  else if x2 = 0 then
    (am_b 12 x1 fun j5 =>
    some (h3, some (h3 85 j5)))
  else if x2 = 1 then
    (am_b 12 x1 fun j6 =>
    some (h3, some (h3 86 j6)))
  else if x2 = 2 then
    (am_b 12 x1 fun j7 =>
    some (h3, some (h3 87 j7)))
  else am_r1 (am_g d 112 [vr 7 82, vi x1] h3) fun h8 v9 =>
  some (h8, some v9) := (am_g_run (tb := cM_room) rfl rfl (Nat.le_of_ble_eq_true rfl) rfl).trans (qM_room_0 (am_g d) 999999 x1 x2 h)
def rM_modulo (d n i : Nat) (ls : am_L) (h : am_H) : am_Z := am_run 0 (fun _ => 0) cM_modulo (am_g d) n i ls h
theorem gM_modulo (d : Nat) (x0 : Int32) (x1 : Int32) (h : am_H) : am_g (d + 1) 126 [vi x0, vi x1] h =
  if x1 = 0 then none else
  if x1 = 0 then none else
  some (h, some (am_rem ((am_rem x0 x1) + x1) x1)) := (am_g_run (tb := cM_modulo) rfl rfl (Nat.le_of_ble_eq_true rfl) rfl).trans (qM_modulo_0 (am_g d) 999999 x0 x1 h)
def rM_clock (d n i : Nat) (ls : am_L) (h : am_H) : am_Z := am_run 0 (fun _ => 0) cM_clock (am_g d) n i ls h
theorem gM_clock (d : Nat) (x1 : Int32) (x2 : Int32) (x3 : Int32) (h : am_H) : am_g (d + 1) 127 [vr 7 82, vi x1, vi x2, vi x3] h =
  am_r1 (am_g d 108 [vr 7 82, vi x1] h) fun h1 v2 =>
  if v2 = 0 then
    (some (h1, some (-1)))
  else am_r1 (am_g d 95 [vl (Int32.toInt64 x2), vl (Int32.toInt64 (-9999)), vl (Int32.toInt64 9999)] h1) fun h3 v4 =>
  if v4 = 0 then
    (some (h3, some (-1)))
  else am_r1 (am_g d 95 [vl (Int32.toInt64 x3), vl (Int32.toInt64 0), vl (Int32.toInt64 1)] h3) fun h5 v6 =>
  if v6 = 0 then
    (some (h5, some (-1)))
  else am_b 12 x1 fun j7 =>
  am_b 12 x1 fun j8 =>
  am_b 12 x1 fun j9 =>
  am_r1 (am_g d 126 [vi (((h5 87 j8) * (12 * (h5 86 j7))) + (x2 * (h5 85 j9))), vi (24 * (12 * (h5 86 j7)))] h5) fun h10 v11 =>
  am_r1 (am_g d 124 [vi v11, vi (12 * (h5 86 j7))] h10) fun h12 v13 =>
  if x3 = 0 then
    (if v13 = 0 then none else
    some (h12, some (v11 / v13)))
  else if v13 = 0 then none else
  some (h12, some ((12 * (h5 86 j7)) / v13)) := (am_g_run (tb := cM_clock) rfl rfl (Nat.le_of_ble_eq_true rfl) rfl).trans (qM_clock_0 (am_g d) 999999 x1 x2 x3 h)
def rM_door (d n i : Nat) (ls : am_L) (h : am_H) : am_Z := am_run 0 (fun _ => 0) cM_door (am_g d) n i ls h
theorem gM_door (d : Nat) (x1 : Int32) (x2 : Int32) (h : am_H) : am_g (d + 1) 128 [vr 7 82, vi x1, vi x2] h =
  am_r1 (am_g d 109 [vr 7 82, vi x1] h) fun h1 v2 =>
  if v2 = 0 then
    (some (h1, some (-1)))
  else am_r1 (am_g d 95 [vl (Int32.toInt64 x2), vl (Int32.toInt64 0), vl (Int32.toInt64 2)] h1) fun h3 v4 =>
  if v4 = 0 then
    (some (h3, some (-1)))
  else if x2 = 0 then
    (am_b 16 x1 fun j5 =>
    some (h3, some (h3 89 j5)))
  else if x2 = 1 then
    (am_b 16 x1 fun j6 =>
    some (h3, some (h3 90 j6)))
  else am_b 16 x1 fun j7 =>
  some (h3, some ((h3 91 j7) + 24)) := (am_g_run (tb := cM_door) rfl rfl (Nat.le_of_ble_eq_true rfl) rfl).trans (qM_door_0 (am_g d) 999999 x1 x2 h)
def rM_thingsOf (d n i : Nat) (ls : am_L) (h : am_H) : am_Z := am_run 0 (fun _ => 0) cM_thingsOf (am_g d) n i ls h
theorem gM_thingsOf (d : Nat) (x1 : Int32) (h : am_H) : am_g (d + 1) 129 [vr 7 82, vi x1] h =
  rM_thingsOf d 999999 5 [some (vr 7 82), some (vi x1), some (vi 0), some (vi 0)] h := (am_g_run (tb := cM_thingsOf) rfl rfl (Nat.le_of_ble_eq_true rfl) rfl).trans (qM_thingsOf_0 (am_g d) 999999 x1 h)
theorem tM_thingsOf_5 (d n : Nat) (x1 : Int32) (x2 : Int32) (x3 : Int32) (h : am_H) : rM_thingsOf d (n + 1) 5 [some (vr 7 82), some (vi x1), some (vi x2), some (vi x3)] h =
  if x3 < (h 95 0) then
    (am_b 5 x3 fun j1 =>
    if (h 112 j1) = x1 then
      (rM_thingsOf d n 5 [some (vr 7 82), some (vi x1), some (vi (x2 ||| ((1 : Int32) <<< (x3 &&& 31)))), some (vi (x3 + 1))] h)
    else rM_thingsOf d n 5 [some (vr 7 82), some (vi x1), some (vi (x2 ||| 0)), some (vi (x3 + 1))] h)
  else some (h, some x2) := qM_thingsOf_5 (am_g d) n x1 x2 x3 h
def rM_person (d n i : Nat) (ls : am_L) (h : am_H) : am_Z := am_run 0 (fun _ => 0) cM_person (am_g d) n i ls h
theorem gM_person (d : Nat) (x1 : Int32) (x2 : Int32) (h : am_H) : am_g (d + 1) 130 [vr 7 82, vi x1, vi x2] h =
  am_r1 (am_g d 110 [vr 7 82, vi x1] h) fun h1 v2 =>
  if v2 = 0 then
    (some (h1, some (-1)))
  else am_r1 (am_g d 95 [vl (Int32.toInt64 x2), vl (Int32.toInt64 0), vl (Int32.toInt64 4)] h1) fun h3 v4 =>
  if v4 = 0 then
    (some (h3, some (-1)))
  else if x2 = nI 0 then
    (am_b 4 x1 fun j5 =>
    some (h3, some (h3 108 j5)))
  else if x2 = nI 1 then
    (am_b 4 x1 fun j6 =>
    some (h3, some ((h3 109 j6) + 100000)))
  else if x2 = nI 2 then
    (am_b 4 x1 fun j7 =>
    some (h3, some (h3 110 j7)))
  else if x2 = nI 3 then
    (am_r1 (am_g d 129 [vr 7 82, vi x1] h3) fun h8 v9 =>
    some (h8, some v9))
  else am_b 4 x1 fun j10 =>
  some (h3, some (h3 115 j10)) := (am_g_run (tb := cM_person) rfl rfl (Nat.le_of_ble_eq_true rfl) rfl).trans (qM_person_0 (am_g d) 999999 x1 x2 h)
def rM_thing (d n i : Nat) (ls : am_L) (h : am_H) : am_Z := am_run 0 (fun _ => 0) cM_thing (am_g d) n i ls h
theorem gM_thing (d : Nat) (x1 : Int32) (x2 : Int32) (h : am_H) : am_g (d + 1) 131 [vr 7 82, vi x1, vi x2] h =
  am_r1 (am_g d 111 [vr 7 82, vi x1] h) fun h1 v2 =>
  if v2 = 0 then
    (some (h1, some (-1)))
  else am_r1 (am_g d 95 [vl (Int32.toInt64 x2), vl (Int32.toInt64 0), vl (Int32.toInt64 5)] h1) fun h3 v4 =>
  if v4 = 0 then
    (some (h3, some (-1)))
  else if x2 = nI 0 then
    (am_b 10 x1 fun j5 =>
    some (h3, some (h3 97 j5)))
  else if x2 = nI 1 then
    (am_b 10 x1 fun j6 =>
    some (h3, some (h3 98 j6)))
  else if x2 = nI 2 then
    (am_b 5 x1 fun j7 =>
    some (h3, some (h3 111 j7)))
  else if x2 = nI 3 then
    (am_b 5 x1 fun j8 =>
    some (h3, some (h3 112 j8)))
  else if x2 = nI 4 then
    (am_b 5 x1 fun j9 =>
    if (h3 111 j9) < 0 then
      (some (h3, some (-4)))
    else am_b 5 x1 fun j10 =>
    some (h3, some ((h3 113 j10) + 100000)))
  else am_b 5 x1 fun j11 =>
  some (h3, some ((h3 114 j11) / 144)) := (am_g_run (tb := cM_thing) rfl rfl (Nat.le_of_ble_eq_true rfl) rfl).trans (qM_thing_0 (am_g d) 999999 x1 x2 h)
def rM_worthOf (d n i : Nat) (ls : am_L) (h : am_H) : am_Z := am_run 0 (fun _ => 0) cM_worthOf (am_g d) n i ls h
theorem gM_worthOf (d : Nat) (x1 : Int32) (x2 : Int32) (h : am_H) : am_g (d + 1) 132 [vr 7 82, vi x1, vi x2] h =
  am_b 10 x1 fun j1 =>
  if (h 97 j1) = nI 0 then
    (am_b 10 x1 fun j2 =>
    some (h, some (h 98 j2)))
  else if (h 97 j1) = nI 1 then
    (am_b 10 x1 fun j3 =>
    if (x2 / 144) < (h 98 j3) then
      (am_b 10 x1 fun j4 =>
      some (h, some ((h 98 j4) - (x2 / 144))))
    else some (h, some 0))
  else if (h 97 j1) = nI 2 then
    (am_b 10 x1 fun j5 =>
    if (x2 / 144) < (h 98 j5) then
      (some (h, some 0))
    else some (h, some 1))
  else am_b 10 x1 fun j6 =>
  if (x2 / 144) < (h 98 j6) then
    (some (h, some 1))
  else some (h, some 0) := (am_g_run (tb := cM_worthOf) rfl rfl (Nat.le_of_ble_eq_true rfl) rfl).trans (qM_worthOf_0 (am_g d) 999999 x1 x2 h)
def rM_worth (d n i : Nat) (ls : am_L) (h : am_H) : am_Z := am_run 0 (fun _ => 0) cM_worth (am_g d) n i ls h
theorem gM_worth (d : Nat) (x1 : Int32) (x2 : Int32) (h : am_H) : am_g (d + 1) 133 [vr 7 82, vi x1, vi x2] h =
  am_r1 (am_g d 111 [vr 7 82, vi x1] h) fun h1 v2 =>
  if v2 = 0 then
    (some (h1, some (-1)))
  else am_r1 (am_g d 95 [vl (Int32.toInt64 x2), vl (Int32.toInt64 (-9999)), vl (Int32.toInt64 9999)] h1) fun h3 v4 =>
  if v4 = 0 then
    (some (h3, some (-1)))
  else am_b 5 x1 fun j5 =>
  if (h3 111 j5) < 0 then
    (some (h3, some (-2)))
  else am_b 5 x1 fun j6 =>
  if x2 < (h3 113 j6) then
    (some (h3, some (-2)))
  else am_b 5 x1 fun j7 =>
  am_b 5 x1 fun j8 =>
  am_b 5 x1 fun j9 =>
  am_r1 (am_g d 113 [vr 7 82, vi (h3 111 j8), vi (x2 - (h3 113 j9))] h3) fun h10 v11 =>
  am_r1 (am_g d 132 [vr 7 82, vi x1, vi ((h3 114 j7) + v11)] h10) fun h12 v13 =>
  some (h12, some v13) := (am_g_run (tb := cM_worth) rfl rfl (Nat.le_of_ble_eq_true rfl) rfl).trans (qM_worth_0 (am_g d) 999999 x1 x2 h)
def rM_note (d n i : Nat) (ls : am_L) (h : am_H) : am_Z := am_run 0 (fun _ => 0) cM_note (am_g d) n i ls h
theorem gM_note (d : Nat) (x1 : Int32) (x2 : Int32) (x3 : Int32) (h : am_H) : am_g (d + 1) 134 [vr 7 82, vi x1, vi x2, vi x3] h =
  am_b 120 (h 100 0) fun j1 =>
  am_b 120 (h 100 0) fun j2 =>
  am_b 120 (h 100 0) fun j3 =>
  some (am_up (am_up (am_up (am_up h 101 j1 x1) 102 j2 x2) 103 j3 x3) 100 0 ((h 100 0) + 1), none) := (am_g_run (tb := cM_note) rfl rfl (Nat.le_of_ble_eq_true rfl) rfl).trans (qM_note_0 (am_g d) 999999 x1 x2 x3 h)
def rM_bits (d n i : Nat) (ls : am_L) (h : am_H) : am_Z := am_run 0 (fun _ => 0) cM_bits (am_g d) n i ls h
theorem gM_bits (d : Nat) (x0 : Int32) (h : am_H) : am_g (d + 1) 135 [vi x0] h =
  rM_bits d 999999 5 [some (vi x0), some (vi 0), some (vi x0)] h := (am_g_run (tb := cM_bits) rfl rfl (Nat.le_of_ble_eq_true rfl) rfl).trans (qM_bits_0 (am_g d) 999999 x0 h)
theorem tM_bits_5 (d n : Nat) (x0 : Int32) (x1 : Int32) (x2 : Int32) (h : am_H) : rM_bits d (n + 1) 5 [some (vi x0), some (vi x1), some (vi x2)] h =
  if x2 = 0 then
    (some (h, some x1))
  else rM_bits d n 5 [some (vi x0), some (vi (x1 + 1)), some (vi (x2 &&& (x2 - 1)))] h := qM_bits_5 (am_g d) n x0 x1 x2 h
def rM_stay (d n i : Nat) (ls : am_L) (h : am_H) : am_Z := am_run 0 (fun _ => 0) cM_stay (am_g d) n i ls h
theorem gM_stay (d : Nat) (x1 : Int32) (x2 : Int32) (h : am_H) : am_g (d + 1) 136 [vr 7 82, vi x1, vi x2] h =
  am_r1 (am_g d 110 [vr 7 82, vi x1] h) fun h1 v2 =>
  if v2 = 0 then
    (some (h1, some (-1)))
  else am_r1 (am_g d 95 [vl (Int32.toInt64 x2), vl (Int32.toInt64 1), vl (Int32.toInt64 24)] h1) fun h3 v4 =>
  if v4 = 0 then
    (some (h3, some (-1)))
  else if (h3 100 0) = 40 then
    (some (h3, some (-3)))
  else am_r0 (am_g d 134 [vr 7 82, vi 0, vi x1, vi x2] h3) fun h5 =>
  am_r1 (am_g d 122 [vr 7 82, vi 0, vi x1, vi x2] h5) fun h6 v7 =>
  am_b 4 x1 fun j8 =>
  some (h6, some ((h6 109 j8) + 100000)) := (am_g_run (tb := cM_stay) rfl rfl (Nat.le_of_ble_eq_true rfl) rfl).trans (qM_stay_0 (am_g d) 999999 x1 x2 h)
def rM_go (d n i : Nat) (ls : am_L) (h : am_H) : am_Z := am_run 0 (fun _ => 0) cM_go (am_g d) n i ls h
theorem gM_go (d : Nat) (x1 : Int32) (x2 : Int32) (h : am_H) : am_g (d + 1) 137 [vr 7 82, vi x1, vi x2] h =
  am_r1 (am_g d 110 [vr 7 82, vi x1] h) fun h1 v2 =>
  if v2 = 0 then
    (some (h1, some (-1)))
  else am_r1 (am_g d 109 [vr 7 82, vi x2] h1) fun h3 v4 =>
  if v4 = 0 then
    (some (h3, some (-1)))
  else am_b 4 x1 fun j5 =>
  am_r1 (am_g d 115 [vr 7 82, vi x2, vi (h3 108 j5)] h3) fun h6 v7 =>
  if v7 = 0 then
    (some (h6, some (-2)))
  else if (h6 100 0) = 40 then
    (some (h6, some (-3)))
  else am_r0 (am_g d 134 [vr 7 82, vi 1, vi x1, vi x2] h6) fun h8 =>
  am_r1 (am_g d 122 [vr 7 82, vi 1, vi x1, vi x2] h8) fun h9 v10 =>
  am_b 4 x1 fun j11 =>
  some (h9, some ((h9 109 j11) + 100000)) := (am_g_run (tb := cM_go) rfl rfl (Nat.le_of_ble_eq_true rfl) rfl).trans (qM_go_0 (am_g d) 999999 x1 x2 h)
def rM_take (d n i : Nat) (ls : am_L) (h : am_H) : am_Z := am_run 0 (fun _ => 0) cM_take (am_g d) n i ls h
theorem gM_take (d : Nat) (x1 : Int32) (x2 : Int32) (h : am_H) : am_g (d + 1) 138 [vr 7 82, vi x1, vi x2] h =
  am_r1 (am_g d 110 [vr 7 82, vi x1] h) fun h1 v2 =>
  if v2 = 0 then
    (some (h1, some (-1)))
  else am_r1 (am_g d 111 [vr 7 82, vi x2] h1) fun h3 v4 =>
  if v4 = 0 then
    (some (h3, some (-1)))
  else am_b 5 x2 fun j5 =>
  am_b 4 x1 fun j6 =>
  if (h3 111 j5) = (h3 108 j6) then
    (am_b 5 x2 fun j7 =>
    am_b 4 x1 fun j8 =>
    if (h3 109 j8) < (h3 113 j7) then
      (some (h3, some (-2)))
    else if (h3 100 0) = 40 then
      (some (h3, some (-3)))
    else am_r0 (am_g d 134 [vr 7 82, vi 2, vi x1, vi x2] h3) fun h9 =>
    am_r1 (am_g d 122 [vr 7 82, vi 2, vi x1, vi x2] h9) fun h10 v11 =>
    am_r1 (am_g d 129 [vr 7 82, vi x1] h10) fun h12 v13 =>
    am_r1 (am_g d 135 [vi v13] h12) fun h14 v15 =>
    some (h14, some v15))
  else some (h3, some (-2)) := (am_g_run (tb := cM_take) rfl rfl (Nat.le_of_ble_eq_true rfl) rfl).trans (qM_take_0 (am_g d) 999999 x1 x2 h)
def rM_put (d n i : Nat) (ls : am_L) (h : am_H) : am_Z := am_run 0 (fun _ => 0) cM_put (am_g d) n i ls h
theorem gM_put (d : Nat) (x1 : Int32) (x2 : Int32) (h : am_H) : am_g (d + 1) 139 [vr 7 82, vi x1, vi x2] h =
  am_r1 (am_g d 110 [vr 7 82, vi x1] h) fun h1 v2 =>
  if v2 = 0 then
    (some (h1, some (-1)))
  else am_r1 (am_g d 111 [vr 7 82, vi x2] h1) fun h3 v4 =>
  if v4 = 0 then
    (some (h3, some (-1)))
  else am_b 5 x2 fun j5 =>
  if (h3 112 j5) = x1 then
    (if (h3 100 0) = 40 then
      (some (h3, some (-3)))
    else am_r0 (am_g d 134 [vr 7 82, vi 3, vi x1, vi x2] h3) fun h6 =>
    am_r1 (am_g d 122 [vr 7 82, vi 3, vi x1, vi x2] h6) fun h7 v8 =>
    am_r1 (am_g d 129 [vr 7 82, vi x1] h7) fun h9 v10 =>
    am_r1 (am_g d 135 [vi v10] h9) fun h11 v12 =>
    some (h11, some v12))
  else some (h3, some (-2)) := (am_g_run (tb := cM_put) rfl rfl (Nat.le_of_ble_eq_true rfl) rfl).trans (qM_put_0 (am_g d) 999999 x1 x2 h)
def rM_undo (d n i : Nat) (ls : am_L) (h : am_H) : am_Z := am_run 0 (fun _ => 0) cM_undo (am_g d) n i ls h
theorem gM_undo (d : Nat)  (h : am_H) : am_g (d + 1) 140 [vr 7 82] h =
  if (h 100 0) = 0 then
    (some (h, some (-2)))
  else am_r0 (am_g d 123 [vr 7 82] (am_up h 100 0 ((h 100 0) - 1))) fun h1 =>
  some (h1, some (h1 100 0)) := (am_g_run (tb := cM_undo) rfl rfl (Nat.le_of_ble_eq_true rfl) rfl).trans (qM_undo_0 (am_g d) 999999  h)
def rM_meet (d n i : Nat) (ls : am_L) (h : am_H) : am_Z := am_run 0 (fun _ => 0) cM_meet (am_g d) n i ls h
theorem gM_meet (d : Nat) (x1 : Int32) (x2 : Int32) (x3 : Int32) (h : am_H) : am_g (d + 1) 141 [vr 7 82, vi x1, vi x2, vi x3] h =
  am_r1 (am_g d 110 [vr 7 82, vi x1] h) fun h1 v2 =>
  if v2 = 0 then
    (some (h1, some (-1)))
  else am_r1 (am_g d 110 [vr 7 82, vi x2] h1) fun h3 v4 =>
  if v4 = 0 then
    (some (h3, some (-1)))
  else am_r1 (am_g d 95 [vl (Int32.toInt64 x3), vl (Int32.toInt64 0), vl (Int32.toInt64 1)] h3) fun h5 v6 =>
  if v6 = 0 then
    (some (h5, some (-1)))
  else rM_meet d 999999 25 [some (vr 7 82), some (vi x1), some (vi x2), some (vi x3), some (vi 1000000), some (vi (-4)), some (vi (41 * x1)), none, none, none] h5 := (am_g_run (tb := cM_meet) rfl rfl (Nat.le_of_ble_eq_true rfl) rfl).trans (qM_meet_0 (am_g d) 999999 x1 x2 x3 h)
theorem tM_meet_25 (d n : Nat) (x1 : Int32) (x2 : Int32) (x3 : Int32) (x4 : Int32) (x5 : Int32) (x6 : Int32) (u7 : Option am_V) (u8 : Option am_V) (u9 : Option am_V) (h : am_H) : rM_meet d (n + 1) 25 [some (vr 7 82), some (vi x1), some (vi x2), some (vi x3), some (vi x4), some (vi x5), some (vi x6), u7, u8, u9] h =
  am_b 4 x1 fun j1 =>
  if x6 < ((41 * x1) + (h 115 j1)) then
    (rM_meet d n 40 [some (vr 7 82), some (vi x1), some (vi x2), some (vi x3), some (vi x4), some (vi x5), some (vi x6), some (vi (41 * x2)), u8, u9] h)
  else if x4 = 1000000 then
    (some (h, some (-4)))
  else if x3 = 0 then
    (some (h, some (x4 + 100000)))
  else some (h, some x5) := qM_meet_25 (am_g d) n x1 x2 x3 x4 x5 x6 u7 u8 u9 h
theorem tM_meet_40 (d n : Nat) (x1 : Int32) (x2 : Int32) (x3 : Int32) (x4 : Int32) (x5 : Int32) (x6 : Int32) (x7 : Int32) (u8 : Option am_V) (u9 : Option am_V) (h : am_H) : rM_meet d (n + 1) 40 [some (vr 7 82), some (vi x1), some (vi x2), some (vi x3), some (vi x4), some (vi x5), some (vi x6), some (vi x7), u8, u9] h =
  am_b 4 x2 fun j1 =>
  if x7 < ((41 * x2) + (h 115 j1)) then
    (am_b 164 x6 fun j2 =>
    am_b 164 x7 fun j3 =>
    if (h 117 j3) < (h 117 j2) then
      (am_b 164 x6 fun j4 =>
      if x6 = x7 then
        (rM_meet d n 40 [some (vr 7 82), some (vi x1), some (vi x2), some (vi x3), some (vi x4), some (vi x5), some (vi x6), some (vi (x7 + 1)), some (vi (h 117 j4)), some (vi 0)] h)
      else am_b 164 x6 fun j5 =>
      am_b 164 x7 fun j6 =>
      if (h 116 j5) = (h 116 j6) then
        (am_b 164 x6 fun j7 =>
        if (h 118 j7) < (h 117 j4) then
          (rM_meet d n 40 [some (vr 7 82), some (vi x1), some (vi x2), some (vi x3), some (vi x4), some (vi x5), some (vi x6), some (vi (x7 + 1)), some (vi (h 117 j4)), some (vi 0)] h)
        else am_b 164 x7 fun j8 =>
        if (h 118 j8) < (h 117 j4) then
          (rM_meet d n 40 [some (vr 7 82), some (vi x1), some (vi x2), some (vi x3), some (vi x4), some (vi x5), some (vi x6), some (vi (x7 + 1)), some (vi (h 117 j4)), some (vi 0)] h)
        else if (h 117 j4) < x4 then
          (am_b 164 x6 fun j9 =>
          rM_meet d n 40 [some (vr 7 82), some (vi x1), some (vi x2), some (vi x3), some (vi (h 117 j4)), some (vi (h 116 j9)), some (vi x6), some (vi (x7 + 1)), some (vi (h 117 j4)), some (vi 1)] h)
        else if (h 117 j4) = x4 then
          (am_b 164 x6 fun j10 =>
          if (h 116 j10) < x5 then
            (am_b 164 x6 fun j11 =>
            rM_meet d n 40 [some (vr 7 82), some (vi x1), some (vi x2), some (vi x3), some (vi (h 117 j4)), some (vi (h 116 j11)), some (vi x6), some (vi (x7 + 1)), some (vi (h 117 j4)), some (vi 1)] h)
          else rM_meet d n 40 [some (vr 7 82), some (vi x1), some (vi x2), some (vi x3), some (vi x4), some (vi x5), some (vi x6), some (vi (x7 + 1)), some (vi (h 117 j4)), some (vi 1)] h)
        else rM_meet d n 40 [some (vr 7 82), some (vi x1), some (vi x2), some (vi x3), some (vi x4), some (vi x5), some (vi x6), some (vi (x7 + 1)), some (vi (h 117 j4)), some (vi 1)] h)
      else rM_meet d n 40 [some (vr 7 82), some (vi x1), some (vi x2), some (vi x3), some (vi x4), some (vi x5), some (vi x6), some (vi (x7 + 1)), some (vi (h 117 j4)), some (vi 0)] h)
    else am_b 164 x7 fun j12 =>
    if x6 = x7 then
      (rM_meet d n 40 [some (vr 7 82), some (vi x1), some (vi x2), some (vi x3), some (vi x4), some (vi x5), some (vi x6), some (vi (x7 + 1)), some (vi (h 117 j12)), some (vi 0)] h)
    else am_b 164 x6 fun j13 =>
    am_b 164 x7 fun j14 =>
    if (h 116 j13) = (h 116 j14) then
      (am_b 164 x6 fun j15 =>
      if (h 118 j15) < (h 117 j12) then
        (rM_meet d n 40 [some (vr 7 82), some (vi x1), some (vi x2), some (vi x3), some (vi x4), some (vi x5), some (vi x6), some (vi (x7 + 1)), some (vi (h 117 j12)), some (vi 0)] h)
      else am_b 164 x7 fun j16 =>
      if (h 118 j16) < (h 117 j12) then
        (rM_meet d n 40 [some (vr 7 82), some (vi x1), some (vi x2), some (vi x3), some (vi x4), some (vi x5), some (vi x6), some (vi (x7 + 1)), some (vi (h 117 j12)), some (vi 0)] h)
      else if (h 117 j12) < x4 then
        (am_b 164 x6 fun j17 =>
        rM_meet d n 40 [some (vr 7 82), some (vi x1), some (vi x2), some (vi x3), some (vi (h 117 j12)), some (vi (h 116 j17)), some (vi x6), some (vi (x7 + 1)), some (vi (h 117 j12)), some (vi 1)] h)
      else if (h 117 j12) = x4 then
        (am_b 164 x6 fun j18 =>
        if (h 116 j18) < x5 then
          (am_b 164 x6 fun j19 =>
          rM_meet d n 40 [some (vr 7 82), some (vi x1), some (vi x2), some (vi x3), some (vi (h 117 j12)), some (vi (h 116 j19)), some (vi x6), some (vi (x7 + 1)), some (vi (h 117 j12)), some (vi 1)] h)
        else rM_meet d n 40 [some (vr 7 82), some (vi x1), some (vi x2), some (vi x3), some (vi x4), some (vi x5), some (vi x6), some (vi (x7 + 1)), some (vi (h 117 j12)), some (vi 1)] h)
      else rM_meet d n 40 [some (vr 7 82), some (vi x1), some (vi x2), some (vi x3), some (vi x4), some (vi x5), some (vi x6), some (vi (x7 + 1)), some (vi (h 117 j12)), some (vi 1)] h)
    else rM_meet d n 40 [some (vr 7 82), some (vi x1), some (vi x2), some (vi x3), some (vi x4), some (vi x5), some (vi x6), some (vi (x7 + 1)), some (vi (h 117 j12)), some (vi 0)] h)
  else rM_meet d n 25 [some (vr 7 82), some (vi x1), some (vi x2), some (vi x3), some (vi x4), some (vi x5), some (vi (x6 + 1)), some (vi x7), u8, u9] h := qM_meet_40 (am_g d) n x1 x2 x3 x4 x5 x6 x7 u8 u9 h
def rM_costOf (d n i : Nat) (ls : am_L) (h : am_H) : am_Z := am_run 0 (fun _ => 0) cM_costOf (am_g d) n i ls h
theorem gM_costOf (d : Nat) (x1 : Int32) (x2 : Int32) (h : am_H) : am_g (d + 1) 142 [vr 7 82, vi x1, vi x2] h =
  am_r1 (am_g d 112 [vr 7 82, vi x2] h) fun h1 v2 =>
  am_r1 (am_g d 116 [vr 7 82, vi x1, vi x2] h1) fun h3 v4 =>
  some (h3, some (((h 99 0) * v2) + (12 * v4))) := (am_g_run (tb := cM_costOf) rfl rfl (Nat.le_of_ble_eq_true rfl) rfl).trans (qM_costOf_0 (am_g d) 999999 x1 x2 h)
def rM_layLow (d n i : Nat) (ls : am_L) (h : am_H) : am_Z := am_run 0 (fun _ => 0) cM_layLow (am_g d) n i ls h
theorem gM_layLow (d : Nat) (x1 : Int32) (x2 : Int32) (h : am_H) : am_g (d + 1) 143 [vr 7 82, vi x1, vi x2] h =
  rM_layLow d 999999 3 [some (vr 7 82), some (vi x1), some (vi x2), some (vi 0), none, none, none, none, none] h := (am_g_run (tb := cM_layLow) rfl rfl (Nat.le_of_ble_eq_true rfl) rfl).trans (qM_layLow_0 (am_g d) 999999 x1 x2 h)
theorem tM_layLow_3 (d n : Nat) (x1 : Int32) (x2 : Int32) (x3 : Int32) (u4 : Option am_V) (u5 : Option am_V) (u6 : Option am_V) (u7 : Option am_V) (u8 : Option am_V) (h : am_H) : rM_layLow d (n + 1) 3 [some (vr 7 82), some (vi x1), some (vi x2), some (vi x3), u4, u5, u6, u7, u8] h =
  if x3 < 54 then
    (am_b 54 x3 fun j1 =>
    rM_layLow d n 3 [some (vr 7 82), some (vi x1), some (vi x2), some (vi (x3 + 1)), u4, u5, u6, u7, u8] (am_up h 119 j1 1000000))
  else am_b 54 x1 fun j2 =>
  rM_layLow d n 21 [some (vr 7 82), some (vi x1), some (vi x2), some (vi 0), u4, u5, u6, u7, u8] (am_up h 119 j2 x2) := qM_layLow_3 (am_g d) n x1 x2 x3 u4 u5 u6 u7 u8 h
theorem tM_layLow_21 (d n : Nat) (x1 : Int32) (x2 : Int32) (x3 : Int32) (u4 : Option am_V) (u5 : Option am_V) (u6 : Option am_V) (u7 : Option am_V) (u8 : Option am_V) (h : am_H) : rM_layLow d (n + 1) 21 [some (vr 7 82), some (vi x1), some (vi x2), some (vi x3), u4, u5, u6, u7, u8] h =
  if x3 < 8 then
    (rM_layLow d n 27 [some (vr 7 82), some (vi x1), some (vi x2), some (vi x3), some (vi 0), u5, u6, u7, u8] h)
  else some (h, none) := qM_layLow_21 (am_g d) n x1 x2 x3 u4 u5 u6 u7 u8 h
theorem tM_layLow_27 (d n : Nat) (x1 : Int32) (x2 : Int32) (x3 : Int32) (x4 : Int32) (u5 : Option am_V) (u6 : Option am_V) (u7 : Option am_V) (u8 : Option am_V) (h : am_H) : rM_layLow d (n + 1) 27 [some (vr 7 82), some (vi x1), some (vi x2), some (vi x3), some (vi x4), u5, u6, u7, u8] h =
  if x4 < (h 88 0) then
    (rM_layLow d n 36 [some (vr 7 82), some (vi x1), some (vi x2), some (vi x3), some (vi x4), some (vi 0), u6, u7, u8] h)
  else rM_layLow d n 21 [some (vr 7 82), some (vi x1), some (vi x2), some (vi (x3 + 1)), some (vi x4), u5, u6, u7, u8] h := qM_layLow_27 (am_g d) n x1 x2 x3 x4 u5 u6 u7 u8 h
theorem tM_layLow_36 (d n : Nat) (x1 : Int32) (x2 : Int32) (x3 : Int32) (x4 : Int32) (x5 : Int32) (u6 : Option am_V) (u7 : Option am_V) (u8 : Option am_V) (h : am_H) : rM_layLow d (n + 1) 36 [some (vr 7 82), some (vi x1), some (vi x2), some (vi x3), some (vi x4), some (vi x5), u6, u7, u8] h =
  if x5 < 2 then
    (if x5 = 0 then
      (am_b 16 x4 fun j1 =>
      am_r1 (am_g d 117 [vr 7 82, vi x4, vi (h 89 j1)] h) fun h2 v3 =>
      am_b 54 ((6 * x3) + (h 89 j1)) fun j4 =>
      am_r1 (am_g d 142 [vr 7 82, vi x4, vi (h 89 j1)] h2) fun h5 v6 =>
      am_b 54 ((6 * x3) + (h 89 j1)) fun j7 =>
      if (h5 119 j7) < 1000000 then
        (am_b 54 ((6 * (x3 + 1)) + v3) fun j8 =>
        if ((h2 119 j4) + v6) < (h5 119 j8) then
          (am_b 54 ((6 * (x3 + 1)) + v3) fun j9 =>
          rM_layLow d n 36 [some (vr 7 82), some (vi x1), some (vi x2), some (vi x3), some (vi x4), some (vi (x5 + 1)), some (vi (h 89 j1)), some (vi ((6 * (x3 + 1)) + v3)), some (vi ((h2 119 j4) + v6))] (am_up h5 119 j9 ((h2 119 j4) + v6)))
        else am_b 54 ((6 * (x3 + 1)) + v3) fun j10 =>
        am_b 54 ((6 * (x3 + 1)) + v3) fun j11 =>
        rM_layLow d n 36 [some (vr 7 82), some (vi x1), some (vi x2), some (vi x3), some (vi x4), some (vi (x5 + 1)), some (vi (h 89 j1)), some (vi ((6 * (x3 + 1)) + v3)), some (vi ((h2 119 j4) + v6))] (am_up h5 119 j11 (h5 119 j10)))
      else am_b 54 ((6 * (x3 + 1)) + v3) fun j12 =>
      am_b 54 ((6 * (x3 + 1)) + v3) fun j13 =>
      rM_layLow d n 36 [some (vr 7 82), some (vi x1), some (vi x2), some (vi x3), some (vi x4), some (vi (x5 + 1)), some (vi (h 89 j1)), some (vi ((6 * (x3 + 1)) + v3)), some (vi ((h2 119 j4) + v6))] (am_up h5 119 j13 (h5 119 j12)))
    else am_b 16 x4 fun j14 =>
    am_r1 (am_g d 117 [vr 7 82, vi x4, vi (h 90 j14)] h) fun h15 v16 =>
    am_b 54 ((6 * x3) + (h 90 j14)) fun j17 =>
    am_r1 (am_g d 142 [vr 7 82, vi x4, vi (h 90 j14)] h15) fun h18 v19 =>
    am_b 54 ((6 * x3) + (h 90 j14)) fun j20 =>
    if (h18 119 j20) < 1000000 then
      (am_b 54 ((6 * (x3 + 1)) + v16) fun j21 =>
      if ((h15 119 j17) + v19) < (h18 119 j21) then
        (am_b 54 ((6 * (x3 + 1)) + v16) fun j22 =>
        rM_layLow d n 36 [some (vr 7 82), some (vi x1), some (vi x2), some (vi x3), some (vi x4), some (vi (x5 + 1)), some (vi (h 90 j14)), some (vi ((6 * (x3 + 1)) + v16)), some (vi ((h15 119 j17) + v19))] (am_up h18 119 j22 ((h15 119 j17) + v19)))
      else am_b 54 ((6 * (x3 + 1)) + v16) fun j23 =>
      am_b 54 ((6 * (x3 + 1)) + v16) fun j24 =>
      rM_layLow d n 36 [some (vr 7 82), some (vi x1), some (vi x2), some (vi x3), some (vi x4), some (vi (x5 + 1)), some (vi (h 90 j14)), some (vi ((6 * (x3 + 1)) + v16)), some (vi ((h15 119 j17) + v19))] (am_up h18 119 j24 (h18 119 j23)))
    else am_b 54 ((6 * (x3 + 1)) + v16) fun j25 =>
    am_b 54 ((6 * (x3 + 1)) + v16) fun j26 =>
    rM_layLow d n 36 [some (vr 7 82), some (vi x1), some (vi x2), some (vi x3), some (vi x4), some (vi (x5 + 1)), some (vi (h 90 j14)), some (vi ((6 * (x3 + 1)) + v16)), some (vi ((h15 119 j17) + v19))] (am_up h18 119 j26 (h18 119 j25)))
  else rM_layLow d n 27 [some (vr 7 82), some (vi x1), some (vi x2), some (vi x3), some (vi (x4 + 1)), some (vi x5), u6, u7, u8] h := qM_layLow_36 (am_g d) n x1 x2 x3 x4 x5 u6 u7 u8 h
def rM_early (d n i : Nat) (ls : am_L) (h : am_H) : am_Z := am_run 0 (fun _ => 0) cM_early (am_g d) n i ls h
theorem gM_early (d : Nat) (x1 : Int32) (x2 : Int32) (x3 : Int32) (x4 : Int32) (h : am_H) : am_g (d + 1) 144 [vr 7 82, vi x1, vi x2, vi x3, vi x4] h =
  am_r1 (am_g d 110 [vr 7 82, vi x1] h) fun h1 v2 =>
  if v2 = 0 then
    (some (h1, some (-1)))
  else am_r1 (am_g d 108 [vr 7 82, vi x2] h1) fun h3 v4 =>
  if v4 = 0 then
    (some (h3, some (-1)))
  else am_r1 (am_g d 95 [vl (Int32.toInt64 x3), vl (Int32.toInt64 0), vl (Int32.toInt64 8)] h3) fun h5 v6 =>
  if v6 = 0 then
    (some (h5, some (-1)))
  else am_r1 (am_g d 95 [vl (Int32.toInt64 x4), vl (Int32.toInt64 0), vl (Int32.toInt64 2)] h5) fun h7 v8 =>
  if v8 = 0 then
    (some (h7, some (-1)))
  else am_b 4 x1 fun j9 =>
  am_b 4 x1 fun j10 =>
  am_r0 (am_g d 143 [vr 7 82, vi (h7 108 j9), vi (h7 109 j10)] h7) fun h11 =>
  rM_early d 999999 39 [some (vr 7 82), some (vi x1), some (vi x2), some (vi x3), some (vi x4), some (vi (-4)), some (vi 1000000), some (vi 0)] h11 := (am_g_run (tb := cM_early) rfl rfl (Nat.le_of_ble_eq_true rfl) rfl).trans (qM_early_0 (am_g d) 999999 x1 x2 x3 x4 h)
theorem tM_early_39 (d n : Nat) (x1 : Int32) (x2 : Int32) (x3 : Int32) (x4 : Int32) (x5 : Int32) (x6 : Int32) (x7 : Int32) (h : am_H) : rM_early d (n + 1) 39 [some (vr 7 82), some (vi x1), some (vi x2), some (vi x3), some (vi x4), some (vi x5), some (vi x6), some (vi x7)] h =
  if x3 < x7 then
    (if x5 < 0 then
      (some (h, some (-4)))
    else if x4 < 2 then
      (if x4 = 0 then
        (some (h, some (x6 + 100000)))
      else some (h, some x5))
    else rM_early d n 97 [some (vr 7 82), some (vi x1), some (vi x2), some (vi x3), some (vi x4), some (vi x5), some (vi x6), some (vi 0)] h)
  else am_b 54 ((6 * x7) + x2) fun j1 =>
  if (h 119 j1) < x6 then
    (am_b 54 ((6 * x7) + x2) fun j2 =>
    if (h 119 j2) < x6 then
      (am_b 54 ((6 * x7) + x2) fun j3 =>
      rM_early d n 39 [some (vr 7 82), some (vi x1), some (vi x2), some (vi x3), some (vi x4), some (vi x7), some (vi (h 119 j3)), some (vi (x7 + 1))] h)
    else rM_early d n 39 [some (vr 7 82), some (vi x1), some (vi x2), some (vi x3), some (vi x4), some (vi x7), some (vi x6), some (vi (x7 + 1))] h)
  else am_b 54 ((6 * x7) + x2) fun j4 =>
  if (h 119 j4) < x6 then
    (am_b 54 ((6 * x7) + x2) fun j5 =>
    rM_early d n 39 [some (vr 7 82), some (vi x1), some (vi x2), some (vi x3), some (vi x4), some (vi x5), some (vi (h 119 j5)), some (vi (x7 + 1))] h)
  else rM_early d n 39 [some (vr 7 82), some (vi x1), some (vi x2), some (vi x3), some (vi x4), some (vi x5), some (vi x6), some (vi (x7 + 1))] h := qM_early_39 (am_g d) n x1 x2 x3 x4 x5 x6 x7 h
theorem tM_early_97 (d n : Nat) (x1 : Int32) (x2 : Int32) (x3 : Int32) (x4 : Int32) (x5 : Int32) (x6 : Int32) (x7 : Int32) (h : am_H) : rM_early d (n + 1) 97 [some (vr 7 82), some (vi x1), some (vi x2), some (vi x3), some (vi x4), some (vi x5), some (vi x6), some (vi x7)] h =
  if x7 < (h 88 0) then
    (if 0 < x5 then
      (am_b 4 x1 fun j1 =>
      am_r1 (am_g d 115 [vr 7 82, vi x7, vi (h 108 j1)] h) fun h2 v3 =>
      if v3 = 0 then
        (rM_early d n 97 [some (vr 7 82), some (vi x1), some (vi x2), some (vi x3), some (vi x4), some (vi x5), some (vi x6), some (vi (x7 + 1))] h2)
      else am_b 4 x1 fun j4 =>
      am_r1 (am_g d 117 [vr 7 82, vi x7, vi (h2 108 j4)] h2) fun h5 v6 =>
      am_b 4 x1 fun j7 =>
      am_b 4 x1 fun j8 =>
      am_r1 (am_g d 142 [vr 7 82, vi x7, vi (h5 108 j8)] h5) fun h9 v10 =>
      am_r0 (am_g d 143 [vr 7 82, vi v6, vi ((h5 109 j7) + v10)] h9) fun h11 =>
      am_b 54 ((6 * (x5 - 1)) + x2) fun j12 =>
      if (h11 119 j12) = x6 then
        (some (h11, some x7))
      else rM_early d n 97 [some (vr 7 82), some (vi x1), some (vi x2), some (vi x3), some (vi x4), some (vi x5), some (vi x6), some (vi (x7 + 1))] h11)
    else some (h, some (-4)))
  else some (h, some (-4)) := qM_early_97 (am_g d) n x1 x2 x3 x4 x5 x6 x7 h
def rM_ring (d n i : Nat) (ls : am_L) (h : am_H) : am_Z := am_run 0 (fun _ => 0) cM_ring (am_g d) n i ls h
theorem gM_ring (d : Nat) (x1 : Int32) (h : am_H) : am_g (d + 1) 145 [vr 7 82, vi x1] h =
  am_r1 (am_g d 95 [vl (Int32.toInt64 x1), vl (Int32.toInt64 0), vl (Int32.toInt64 2)] h) fun h1 v2 =>
  if v2 = 0 then
    (some (h1, some (-1)))
  else rM_ring d 999999 17 [some (vr 7 82), some (vi x1), some (vi (-4)), some (vi (-4)), some (vi 0), some (vi 0), none] h1 := (am_g_run (tb := cM_ring) rfl rfl (Nat.le_of_ble_eq_true rfl) rfl).trans (qM_ring_0 (am_g d) 999999 x1 h)
theorem tM_ring_17 (d n : Nat) (x1 : Int32) (x2 : Int32) (x3 : Int32) (x4 : Int32) (x5 : Int32) (u6 : Option am_V) (h : am_H) : rM_ring d (n + 1) 17 [some (vr 7 82), some (vi x1), some (vi x2), some (vi x3), some (vi x4), some (vi x5), u6] h =
  if x5 < (h 84 0) then
    (am_r0 (am_g d 143 [vr 7 82, vi x5, vi 0] h) fun h1 =>
    rM_ring d n 30 [some (vr 7 82), some (vi x1), some (vi x2), some (vi x3), some (vi x4), some (vi x5), some (vi 8)] h1)
  else if x2 < 0 then
    (some (h, some (-4)))
  else if x1 = 0 then
    (some (h, some x2))
  else if x1 = 1 then
    (some (h, some x3))
  else some (h, some x4) := qM_ring_17 (am_g d) n x1 x2 x3 x4 x5 u6 h
theorem tM_ring_30 (d n : Nat) (x1 : Int32) (x2 : Int32) (x3 : Int32) (x4 : Int32) (x5 : Int32) (x6 : Int32) (h : am_H) : rM_ring d (n + 1) 30 [some (vr 7 82), some (vi x1), some (vi x2), some (vi x3), some (vi x4), some (vi x5), some (vi x6)] h =
  if x6 < 2 then
    (rM_ring d n 17 [some (vr 7 82), some (vi x1), some (vi x2), some (vi x3), some (vi x4), some (vi (x5 + 1)), some (vi x6)] h)
  else am_b 54 ((6 * x6) + x5) fun j1 =>
  if (h 119 j1) < 0 then
    (if x2 < 0 then
      (am_b 54 ((6 * x6) + x5) fun j2 =>
      rM_ring d n 30 [some (vr 7 82), some (vi x1), some (vi x6), some (vi x5), some (vi (-(h 119 j2))), some (vi x5), some (vi (x6 + (-1)))] h)
    else if x6 < x2 then
      (am_b 54 ((6 * x6) + x5) fun j3 =>
      rM_ring d n 30 [some (vr 7 82), some (vi x1), some (vi x6), some (vi x5), some (vi (-(h 119 j3))), some (vi x5), some (vi (x6 + (-1)))] h)
    else if x6 = x2 then
      (if x3 = x5 then
        (am_b 54 ((6 * x6) + x5) fun j4 =>
        rM_ring d n 30 [some (vr 7 82), some (vi x1), some (vi x6), some (vi x5), some (vi (-(h 119 j4))), some (vi x5), some (vi (x6 + (-1)))] h)
      else rM_ring d n 30 [some (vr 7 82), some (vi x1), some (vi x2), some (vi x3), some (vi x4), some (vi x5), some (vi (x6 + (-1)))] h)
    else rM_ring d n 30 [some (vr 7 82), some (vi x1), some (vi x2), some (vi x3), some (vi x4), some (vi x5), some (vi (x6 + (-1)))] h)
  else rM_ring d n 30 [some (vr 7 82), some (vi x1), some (vi x2), some (vi x3), some (vi x4), some (vi x5), some (vi (x6 + (-1)))] h := qM_ring_30 (am_g d) n x1 x2 x3 x4 x5 x6 h
def rM_even (d n i : Nat) (ls : am_L) (h : am_H) : am_Z := am_run 0 (fun _ => 0) cM_even (am_g d) n i ls h
theorem gM_even (d : Nat)  (h : am_H) : am_g (d + 1) 146 [vr 7 82] h =
  rM_even d 999999 3 [some (vr 7 82), some (vi 0), none, none, none, none, none] h := (am_g_run (tb := cM_even) rfl rfl (Nat.le_of_ble_eq_true rfl) rfl).trans (qM_even_0 (am_g d) 999999  h)
theorem tM_even_3 (d n : Nat) (x1 : Int32) (u2 : Option am_V) (u3 : Option am_V) (u4 : Option am_V) (u5 : Option am_V) (u6 : Option am_V) (h : am_H) : rM_even d (n + 1) 3 [some (vr 7 82), some (vi x1), u2, u3, u4, u5, u6] h =
  if x1 < 6 then
    (am_b 6 x1 fun j1 =>
    rM_even d n 3 [some (vr 7 82), some (vi (x1 + 1)), u2, u3, u4, u5, u6] (am_up h 120 j1 1000000))
  else rM_even d n 18 [some (vr 7 82), some (vi 1), some (vi 0), u3, u4, u5, u6] h := qM_even_3 (am_g d) n x1 u2 u3 u4 u5 u6 h
theorem tM_even_18 (d n : Nat) (x1 : Int32) (x2 : Int32) (u3 : Option am_V) (u4 : Option am_V) (u5 : Option am_V) (u6 : Option am_V) (h : am_H) : rM_even d (n + 1) 18 [some (vr 7 82), some (vi x1), some (vi x2), u3, u4, u5, u6] h =
  if x2 < (h 84 0) then
    (am_b 6 x2 fun j1 =>
    if (h 120 j1) = 1000000 then
      (am_b 6 x2 fun j2 =>
      rM_even d n 38 [some (vr 7 82), some (vi x1), some (vi x2), some (vi 0), u4, u5, u6] (am_up h 120 j2 0))
    else rM_even d n 18 [some (vr 7 82), some (vi x1), some (vi (x2 + 1)), u3, u4, u5, u6] h)
  else rM_even d n 129 [some (vr 7 82), some (vi x1), some (vi 0), u3, u4, u5, u6] h := qM_even_18 (am_g d) n x1 x2 u3 u4 u5 u6 h
theorem tM_even_38 (d n : Nat) (x1 : Int32) (x2 : Int32) (x3 : Int32) (u4 : Option am_V) (u5 : Option am_V) (u6 : Option am_V) (h : am_H) : rM_even d (n + 1) 38 [some (vr 7 82), some (vi x1), some (vi x2), some (vi x3), u4, u5, u6] h =
  if x3 < 6 then
    (rM_even d n 44 [some (vr 7 82), some (vi x1), some (vi x2), some (vi x3), some (vi 0), u5, u6] h)
  else rM_even d n 18 [some (vr 7 82), some (vi x1), some (vi (x2 + 1)), some (vi x3), u4, u5, u6] h := qM_even_38 (am_g d) n x1 x2 x3 u4 u5 u6 h
theorem tM_even_44 (d n : Nat) (x1 : Int32) (x2 : Int32) (x3 : Int32) (x4 : Int32) (u5 : Option am_V) (u6 : Option am_V) (h : am_H) : rM_even d (n + 1) 44 [some (vr 7 82), some (vi x1), some (vi x2), some (vi x3), some (vi x4), u5, u6] h =
  if x4 < (h 88 0) then
    (am_b 16 x4 fun j1 =>
    am_b 16 x4 fun j2 =>
    am_b 6 (h 89 j1) fun j3 =>
    if (h 120 j3) < 1000000 then
      (am_b 6 (h 90 j2) fun j4 =>
      if (h 120 j4) = 1000000 then
        (am_b 6 (h 89 j1) fun j5 =>
        am_b 16 x4 fun j6 =>
        am_b 6 (h 90 j2) fun j7 =>
        am_b 6 (h 90 j2) fun j8 =>
        if ((am_up h 120 j7 ((h 120 j5) + (h 91 j6))) 120 j8) < 1000000 then
          (am_b 6 (h 89 j1) fun j9 =>
          if ((am_up h 120 j7 ((h 120 j5) + (h 91 j6))) 120 j9) = 1000000 then
            (am_b 6 (h 90 j2) fun j10 =>
            am_b 16 x4 fun j11 =>
            am_b 6 (h 89 j1) fun j12 =>
            rM_even d n 44 [some (vr 7 82), some (vi x1), some (vi x2), some (vi x3), some (vi (x4 + 1)), some (vi (h 89 j1)), some (vi (h 90 j2))] (am_up (am_up h 120 j7 ((h 120 j5) + (h 91 j6))) 120 j12 (((am_up h 120 j7 ((h 120 j5) + (h 91 j6))) 120 j10) - (h 91 j11))))
          else am_b 6 (h 89 j1) fun j13 =>
          am_b 6 (h 89 j1) fun j14 =>
          rM_even d n 44 [some (vr 7 82), some (vi x1), some (vi x2), some (vi x3), some (vi (x4 + 1)), some (vi (h 89 j1)), some (vi (h 90 j2))] (am_up (am_up h 120 j7 ((h 120 j5) + (h 91 j6))) 120 j14 ((am_up h 120 j7 ((h 120 j5) + (h 91 j6))) 120 j13)))
        else am_b 6 (h 89 j1) fun j15 =>
        am_b 6 (h 89 j1) fun j16 =>
        rM_even d n 44 [some (vr 7 82), some (vi x1), some (vi x2), some (vi x3), some (vi (x4 + 1)), some (vi (h 89 j1)), some (vi (h 90 j2))] (am_up (am_up h 120 j7 ((h 120 j5) + (h 91 j6))) 120 j16 ((am_up h 120 j7 ((h 120 j5) + (h 91 j6))) 120 j15)))
      else am_b 6 (h 90 j2) fun j17 =>
      am_b 6 (h 90 j2) fun j18 =>
      am_b 6 (h 90 j2) fun j19 =>
      if ((am_up h 120 j18 (h 120 j17)) 120 j19) < 1000000 then
        (am_b 6 (h 89 j1) fun j20 =>
        if ((am_up h 120 j18 (h 120 j17)) 120 j20) = 1000000 then
          (am_b 6 (h 90 j2) fun j21 =>
          am_b 16 x4 fun j22 =>
          am_b 6 (h 89 j1) fun j23 =>
          rM_even d n 44 [some (vr 7 82), some (vi x1), some (vi x2), some (vi x3), some (vi (x4 + 1)), some (vi (h 89 j1)), some (vi (h 90 j2))] (am_up (am_up h 120 j18 (h 120 j17)) 120 j23 (((am_up h 120 j18 (h 120 j17)) 120 j21) - (h 91 j22))))
        else am_b 6 (h 89 j1) fun j24 =>
        am_b 6 (h 89 j1) fun j25 =>
        rM_even d n 44 [some (vr 7 82), some (vi x1), some (vi x2), some (vi x3), some (vi (x4 + 1)), some (vi (h 89 j1)), some (vi (h 90 j2))] (am_up (am_up h 120 j18 (h 120 j17)) 120 j25 ((am_up h 120 j18 (h 120 j17)) 120 j24)))
      else am_b 6 (h 89 j1) fun j26 =>
      am_b 6 (h 89 j1) fun j27 =>
      rM_even d n 44 [some (vr 7 82), some (vi x1), some (vi x2), some (vi x3), some (vi (x4 + 1)), some (vi (h 89 j1)), some (vi (h 90 j2))] (am_up (am_up h 120 j18 (h 120 j17)) 120 j27 ((am_up h 120 j18 (h 120 j17)) 120 j26)))
    else am_b 6 (h 90 j2) fun j28 =>
    am_b 6 (h 90 j2) fun j29 =>
    am_b 6 (h 90 j2) fun j30 =>
    if ((am_up h 120 j29 (h 120 j28)) 120 j30) < 1000000 then
      (am_b 6 (h 89 j1) fun j31 =>
      if ((am_up h 120 j29 (h 120 j28)) 120 j31) = 1000000 then
        (am_b 6 (h 90 j2) fun j32 =>
        am_b 16 x4 fun j33 =>
        am_b 6 (h 89 j1) fun j34 =>
        rM_even d n 44 [some (vr 7 82), some (vi x1), some (vi x2), some (vi x3), some (vi (x4 + 1)), some (vi (h 89 j1)), some (vi (h 90 j2))] (am_up (am_up h 120 j29 (h 120 j28)) 120 j34 (((am_up h 120 j29 (h 120 j28)) 120 j32) - (h 91 j33))))
      else am_b 6 (h 89 j1) fun j35 =>
      am_b 6 (h 89 j1) fun j36 =>
      rM_even d n 44 [some (vr 7 82), some (vi x1), some (vi x2), some (vi x3), some (vi (x4 + 1)), some (vi (h 89 j1)), some (vi (h 90 j2))] (am_up (am_up h 120 j29 (h 120 j28)) 120 j36 ((am_up h 120 j29 (h 120 j28)) 120 j35)))
    else am_b 6 (h 89 j1) fun j37 =>
    am_b 6 (h 89 j1) fun j38 =>
    rM_even d n 44 [some (vr 7 82), some (vi x1), some (vi x2), some (vi x3), some (vi (x4 + 1)), some (vi (h 89 j1)), some (vi (h 90 j2))] (am_up (am_up h 120 j29 (h 120 j28)) 120 j38 ((am_up h 120 j29 (h 120 j28)) 120 j37)))
  else rM_even d n 38 [some (vr 7 82), some (vi x1), some (vi x2), some (vi (x3 + 1)), some (vi x4), u5, u6] h := qM_even_44 (am_g d) n x1 x2 x3 x4 u5 u6 h
theorem tM_even_129 (d n : Nat) (x1 : Int32) (x2 : Int32) (u3 : Option am_V) (u4 : Option am_V) (u5 : Option am_V) (u6 : Option am_V) (h : am_H) : rM_even d (n + 1) 129 [some (vr 7 82), some (vi x1), some (vi x2), u3, u4, u5, u6] h =
  if x2 < (h 88 0) then
    (if x1 = 0 then
      (rM_even d n 129 [some (vr 7 82), some (vi 0), some (vi (x2 + 1)), u3, u4, u5, u6] h)
    else am_b 16 x2 fun j1 =>
    am_b 6 (h 90 j1) fun j2 =>
    am_b 16 x2 fun j3 =>
    am_b 6 (h 89 j3) fun j4 =>
    am_b 16 x2 fun j5 =>
    if ((h 120 j2) - (h 120 j4)) = (h 91 j5) then
      (rM_even d n 129 [some (vr 7 82), some (vi 1), some (vi (x2 + 1)), u3, u4, u5, u6] h)
    else rM_even d n 129 [some (vr 7 82), some (vi 0), some (vi (x2 + 1)), u3, u4, u5, u6] h)
  else if x1 = 0 then
    (some (h, some 0))
  else some (h, some 1) := qM_even_129 (am_g d) n x1 x2 u3 u4 u5 u6 h
def rM_layStays (d n i : Nat) (ls : am_L) (h : am_H) : am_Z := am_run 0 (fun _ => 0) cM_layStays (am_g d) n i ls h
theorem gM_layStays (d : Nat) (x1 : Int32) (h : am_H) : am_g (d + 1) 147 [vr 7 82, vi x1] h =
  rM_layStays d 999999 3 [some (vr 7 82), some (vi x1), some (vi 0), none, none, none, none] h := (am_g_run (tb := cM_layStays) rfl rfl (Nat.le_of_ble_eq_true rfl) rfl).trans (qM_layStays_0 (am_g d) 999999 x1 h)
theorem tM_layStays_3 (d n : Nat) (x1 : Int32) (x2 : Int32) (u3 : Option am_V) (u4 : Option am_V) (u5 : Option am_V) (u6 : Option am_V) (h : am_H) : rM_layStays d (n + 1) 3 [some (vr 7 82), some (vi x1), some (vi x2), u3, u4, u5, u6] h =
  if x2 < 64 then
    (rM_layStays d n 9 [some (vr 7 82), some (vi x1), some (vi x2), some (vi 0), u4, u5, u6] h)
  else some (h, none) := qM_layStays_3 (am_g d) n x1 x2 u3 u4 u5 u6 h
theorem tM_layStays_9 (d n : Nat) (x1 : Int32) (x2 : Int32) (x3 : Int32) (u4 : Option am_V) (u5 : Option am_V) (u6 : Option am_V) (h : am_H) : rM_layStays d (n + 1) 9 [some (vr 7 82), some (vi x1), some (vi x2), some (vi x3), u4, u5, u6] h =
  if x3 < (h 84 0) then
    (am_r1 (am_g d 96 [vi x1, vi x3] h) fun h1 v2 =>
    if v2 = 0 then
      (am_b 384 ((6 * x2) + x3) fun j3 =>
      am_r1 (am_g d 112 [vr 7 82, vi x3] h1) fun h4 v5 =>
      rM_layStays d n 9 [some (vr 7 82), some (vi x1), some (vi x2), some (vi (x3 + 1)), some (vi 0), some (vi ((6 * (x2 ||| ((1 : Int32) <<< (x3 &&& 31)))) + x3)), some (vi ((h1 121 j3) + v5))] h4)
    else am_r1 (am_g d 96 [vi x2, vi x3] h1) fun h6 v7 =>
    if v7 = 0 then
      (am_b 384 ((6 * x2) + x3) fun j8 =>
      if (h6 121 j8) < 1000000 then
        (am_b 384 ((6 * x2) + x3) fun j9 =>
        am_r1 (am_g d 112 [vr 7 82, vi x3] h6) fun h10 v11 =>
        am_b 384 ((6 * (x2 ||| ((1 : Int32) <<< (x3 &&& 31)))) + x3) fun j12 =>
        if ((h6 121 j9) + v11) < (h10 121 j12) then
          (am_b 384 ((6 * (x2 ||| ((1 : Int32) <<< (x3 &&& 31)))) + x3) fun j13 =>
          rM_layStays d n 9 [some (vr 7 82), some (vi x1), some (vi x2), some (vi (x3 + 1)), some (vi 1), some (vi ((6 * (x2 ||| ((1 : Int32) <<< (x3 &&& 31)))) + x3)), some (vi ((h6 121 j9) + v11))] (am_up h10 121 j13 ((h6 121 j9) + v11)))
        else rM_layStays d n 9 [some (vr 7 82), some (vi x1), some (vi x2), some (vi (x3 + 1)), some (vi 1), some (vi ((6 * (x2 ||| ((1 : Int32) <<< (x3 &&& 31)))) + x3)), some (vi ((h6 121 j9) + v11))] h10)
      else am_b 384 ((6 * x2) + x3) fun j14 =>
      am_r1 (am_g d 112 [vr 7 82, vi x3] h6) fun h15 v16 =>
      rM_layStays d n 9 [some (vr 7 82), some (vi x1), some (vi x2), some (vi (x3 + 1)), some (vi 0), some (vi ((6 * (x2 ||| ((1 : Int32) <<< (x3 &&& 31)))) + x3)), some (vi ((h6 121 j14) + v16))] h15)
    else am_b 384 ((6 * x2) + x3) fun j17 =>
    am_r1 (am_g d 112 [vr 7 82, vi x3] h6) fun h18 v19 =>
    rM_layStays d n 9 [some (vr 7 82), some (vi x1), some (vi x2), some (vi (x3 + 1)), some (vi 0), some (vi ((6 * (x2 ||| ((1 : Int32) <<< (x3 &&& 31)))) + x3)), some (vi ((h6 121 j17) + v19))] h18)
  else rM_layStays d n 3 [some (vr 7 82), some (vi x1), some (vi (x2 + 1)), some (vi x3), u4, u5, u6] h := qM_layStays_9 (am_g d) n x1 x2 x3 u4 u5 u6 h
def rM_round (d n i : Nat) (ls : am_L) (h : am_H) : am_Z := am_run 0 (fun _ => 0) cM_round (am_g d) n i ls h
theorem gM_round (d : Nat) (x1 : Int32) (x2 : Int32) (x3 : Int32) (h : am_H) : am_g (d + 1) 148 [vr 7 82, vi x1, vi x2, vi x3] h =
  am_r1 (am_g d 110 [vr 7 82, vi x1] h) fun h1 v2 =>
  if v2 = 0 then
    (some (h1, some (-1)))
  else am_r1 (am_g d 95 [vl (Int32.toInt64 x2), vl (Int32.toInt64 0), vl (Int32.toInt64 (((1 : Int32) <<< ((h1 84 0) &&& 31)) - 1))] h1) fun h3 v4 =>
  if v4 = 0 then
    (some (h3, some (-1)))
  else am_r1 (am_g d 95 [vl (Int32.toInt64 x3), vl (Int32.toInt64 0), vl (Int32.toInt64 1)] h3) fun h5 v6 =>
  if v6 = 0 then
    (some (h5, some (-1)))
  else rM_round d 999999 29 [some (vr 7 82), some (vi x1), some (vi x2), some (vi x3), some (vi 0), none, none, none, none, none, none, none] h5 := (am_g_run (tb := cM_round) rfl rfl (Nat.le_of_ble_eq_true rfl) rfl).trans (qM_round_0 (am_g d) 999999 x1 x2 x3 h)
theorem tM_round_29 (d n : Nat) (x1 : Int32) (x2 : Int32) (x3 : Int32) (x4 : Int32) (u5 : Option am_V) (u6 : Option am_V) (u7 : Option am_V) (u8 : Option am_V) (u9 : Option am_V) (u10 : Option am_V) (u11 : Option am_V) (h : am_H) : rM_round d (n + 1) 29 [some (vr 7 82), some (vi x1), some (vi x2), some (vi x3), some (vi x4), u5, u6, u7, u8, u9, u10, u11] h =
  if x4 < 384 then
    (am_b 384 x4 fun j1 =>
    rM_round d n 29 [some (vr 7 82), some (vi x1), some (vi x2), some (vi x3), some (vi (x4 + 1)), u5, u6, u7, u8, u9, u10, u11] (am_up h 121 j1 1000000))
  else am_b 4 x1 fun j2 =>
  am_b 4 x1 fun j3 =>
  am_b 384 (h 108 j2) fun j4 =>
  rM_round d n 57 [some (vr 7 82), some (vi x1), some (vi x2), some (vi x3), some (vi 1000000), some (vi (-4)), some (vi 0), u7, u8, u9, u10, u11] (am_up h 121 j4 (h 109 j3)) := qM_round_29 (am_g d) n x1 x2 x3 x4 u5 u6 u7 u8 u9 u10 u11 h
theorem tM_round_57 (d n : Nat) (x1 : Int32) (x2 : Int32) (x3 : Int32) (x4 : Int32) (x5 : Int32) (x6 : Int32) (u7 : Option am_V) (u8 : Option am_V) (u9 : Option am_V) (u10 : Option am_V) (u11 : Option am_V) (h : am_H) : rM_round d (n + 1) 57 [some (vr 7 82), some (vi x1), some (vi x2), some (vi x3), some (vi x4), some (vi x5), some (vi x6), u7, u8, u9, u10, u11] h =
  if 10 < x6 then
    (if x5 < 0 then
      (some (h, some (-4)))
    else if x3 = 0 then
      (some (h, some (x4 + 100000)))
    else some (h, some x5))
  else am_r0 (am_g d 147 [vr 7 82, vi x2] h) fun h1 =>
  rM_round d n 66 [some (vr 7 82), some (vi x1), some (vi x2), some (vi x3), some (vi x4), some (vi x5), some (vi x6), some (vi 0), u8, u9, u10, u11] h1 := qM_round_57 (am_g d) n x1 x2 x3 x4 x5 x6 u7 u8 u9 u10 u11 h
theorem tM_round_66 (d n : Nat) (x1 : Int32) (x2 : Int32) (x3 : Int32) (x4 : Int32) (x5 : Int32) (x6 : Int32) (x7 : Int32) (u8 : Option am_V) (u9 : Option am_V) (u10 : Option am_V) (u11 : Option am_V) (h : am_H) : rM_round d (n + 1) 66 [some (vr 7 82), some (vi x1), some (vi x2), some (vi x3), some (vi x4), some (vi x5), some (vi x6), some (vi x7), u8, u9, u10, u11] h =
  if x7 < (h 84 0) then
    (am_b 384 ((6 * x2) + x7) fun j1 =>
    if (h 121 j1) < x4 then
      (if (h 121 j1) < 1000000 then
        (if x5 < 0 then
          (rM_round d n 66 [some (vr 7 82), some (vi x1), some (vi x2), some (vi x3), some (vi (h 121 j1)), some (vi x6), some (vi x6), some (vi (x7 + 1)), some (vi (h 121 j1)), u9, u10, u11] h)
        else rM_round d n 66 [some (vr 7 82), some (vi x1), some (vi x2), some (vi x3), some (vi (h 121 j1)), some (vi x5), some (vi x6), some (vi (x7 + 1)), some (vi (h 121 j1)), u9, u10, u11] h)
      else rM_round d n 66 [some (vr 7 82), some (vi x1), some (vi x2), some (vi x3), some (vi (h 121 j1)), some (vi x5), some (vi x6), some (vi (x7 + 1)), some (vi (h 121 j1)), u9, u10, u11] h)
    else if (h 121 j1) < 1000000 then
      (if x5 < 0 then
        (rM_round d n 66 [some (vr 7 82), some (vi x1), some (vi x2), some (vi x3), some (vi x4), some (vi x6), some (vi x6), some (vi (x7 + 1)), some (vi (h 121 j1)), u9, u10, u11] h)
      else rM_round d n 66 [some (vr 7 82), some (vi x1), some (vi x2), some (vi x3), some (vi x4), some (vi x5), some (vi x6), some (vi (x7 + 1)), some (vi (h 121 j1)), u9, u10, u11] h)
    else rM_round d n 66 [some (vr 7 82), some (vi x1), some (vi x2), some (vi x3), some (vi x4), some (vi x5), some (vi x6), some (vi (x7 + 1)), some (vi (h 121 j1)), u9, u10, u11] h)
  else rM_round d n 102 [some (vr 7 82), some (vi x1), some (vi x2), some (vi x3), some (vi x4), some (vi x5), some (vi x6), some (vi 0), u8, u9, u10, u11] h := qM_round_66 (am_g d) n x1 x2 x3 x4 x5 x6 x7 u8 u9 u10 u11 h
theorem tM_round_102 (d n : Nat) (x1 : Int32) (x2 : Int32) (x3 : Int32) (x4 : Int32) (x5 : Int32) (x6 : Int32) (x7 : Int32) (u8 : Option am_V) (u9 : Option am_V) (u10 : Option am_V) (u11 : Option am_V) (h : am_H) : rM_round d (n + 1) 102 [some (vr 7 82), some (vi x1), some (vi x2), some (vi x3), some (vi x4), some (vi x5), some (vi x6), some (vi x7), u8, u9, u10, u11] h =
  if x7 < 384 then
    (am_b 384 x7 fun j1 =>
    rM_round d n 102 [some (vr 7 82), some (vi x1), some (vi x2), some (vi x3), some (vi x4), some (vi x5), some (vi x6), some (vi (x7 + 1)), u8, u9, u10, u11] (am_up h 122 j1 1000000))
  else rM_round d n 115 [some (vr 7 82), some (vi x1), some (vi x2), some (vi x3), some (vi x4), some (vi x5), some (vi x6), some (vi 0), u8, u9, u10, u11] h := qM_round_102 (am_g d) n x1 x2 x3 x4 x5 x6 x7 u8 u9 u10 u11 h
theorem tM_round_115 (d n : Nat) (x1 : Int32) (x2 : Int32) (x3 : Int32) (x4 : Int32) (x5 : Int32) (x6 : Int32) (x7 : Int32) (u8 : Option am_V) (u9 : Option am_V) (u10 : Option am_V) (u11 : Option am_V) (h : am_H) : rM_round d (n + 1) 115 [some (vr 7 82), some (vi x1), some (vi x2), some (vi x3), some (vi x4), some (vi x5), some (vi x6), some (vi x7), u8, u9, u10, u11] h =
  if x7 < (h 88 0) then
    (rM_round d n 124 [some (vr 7 82), some (vi x1), some (vi x2), some (vi x3), some (vi x4), some (vi x5), some (vi x6), some (vi x7), some (vi 0), u9, u10, u11] h)
  else rM_round d n 189 [some (vr 7 82), some (vi x1), some (vi x2), some (vi x3), some (vi x4), some (vi x5), some (vi x6), some (vi 0), u8, u9, u10, u11] h := qM_round_115 (am_g d) n x1 x2 x3 x4 x5 x6 x7 u8 u9 u10 u11 h
theorem tM_round_124 (d n : Nat) (x1 : Int32) (x2 : Int32) (x3 : Int32) (x4 : Int32) (x5 : Int32) (x6 : Int32) (x7 : Int32) (x8 : Int32) (u9 : Option am_V) (u10 : Option am_V) (u11 : Option am_V) (h : am_H) : rM_round d (n + 1) 124 [some (vr 7 82), some (vi x1), some (vi x2), some (vi x3), some (vi x4), some (vi x5), some (vi x6), some (vi x7), some (vi x8), u9, u10, u11] h =
  if x8 < 384 then
    (am_b 384 x8 fun j1 =>
    if (h 121 j1) < 1000000 then
      (if (x8 / 6) = x2 then
        (rM_round d n 124 [some (vr 7 82), some (vi x1), some (vi x2), some (vi x3), some (vi x4), some (vi x5), some (vi x6), some (vi x7), some (vi (x8 + 1)), some (vi (am_rem x8 6)), u10, u11] h)
      else am_r1 (am_g d 115 [vr 7 82, vi x7, vi (am_rem x8 6)] h) fun h2 v3 =>
      if v3 = 0 then
        (rM_round d n 124 [some (vr 7 82), some (vi x1), some (vi x2), some (vi x3), some (vi x4), some (vi x5), some (vi x6), some (vi x7), some (vi (x8 + 1)), some (vi (am_rem x8 6)), u10, u11] h2)
      else am_r1 (am_g d 117 [vr 7 82, vi x7, vi (am_rem x8 6)] h2) fun h4 v5 =>
      am_b 384 x8 fun j6 =>
      am_r1 (am_g d 142 [vr 7 82, vi x7, vi (am_rem x8 6)] h4) fun h7 v8 =>
      am_b 384 ((x8 - (am_rem x8 6)) + v5) fun j9 =>
      if ((h4 121 j6) + v8) < (h7 122 j9) then
        (am_b 384 ((x8 - (am_rem x8 6)) + v5) fun j10 =>
        rM_round d n 124 [some (vr 7 82), some (vi x1), some (vi x2), some (vi x3), some (vi x4), some (vi x5), some (vi x6), some (vi x7), some (vi (x8 + 1)), some (vi (am_rem x8 6)), some (vi ((x8 - (am_rem x8 6)) + v5)), some (vi ((h4 121 j6) + v8))] (am_up h7 122 j10 ((h4 121 j6) + v8)))
      else am_b 384 ((x8 - (am_rem x8 6)) + v5) fun j11 =>
      am_b 384 ((x8 - (am_rem x8 6)) + v5) fun j12 =>
      rM_round d n 124 [some (vr 7 82), some (vi x1), some (vi x2), some (vi x3), some (vi x4), some (vi x5), some (vi x6), some (vi x7), some (vi (x8 + 1)), some (vi (am_rem x8 6)), some (vi ((x8 - (am_rem x8 6)) + v5)), some (vi ((h4 121 j6) + v8))] (am_up h7 122 j12 (h7 122 j11)))
    else rM_round d n 124 [some (vr 7 82), some (vi x1), some (vi x2), some (vi x3), some (vi x4), some (vi x5), some (vi x6), some (vi x7), some (vi (x8 + 1)), some (vi (am_rem x8 6)), u10, u11] h)
  else rM_round d n 115 [some (vr 7 82), some (vi x1), some (vi x2), some (vi x3), some (vi x4), some (vi x5), some (vi x6), some (vi (x7 + 1)), some (vi x8), u9, u10, u11] h := qM_round_124 (am_g d) n x1 x2 x3 x4 x5 x6 x7 x8 u9 u10 u11 h
theorem tM_round_189 (d n : Nat) (x1 : Int32) (x2 : Int32) (x3 : Int32) (x4 : Int32) (x5 : Int32) (x6 : Int32) (x7 : Int32) (u8 : Option am_V) (u9 : Option am_V) (u10 : Option am_V) (u11 : Option am_V) (h : am_H) : rM_round d (n + 1) 189 [some (vr 7 82), some (vi x1), some (vi x2), some (vi x3), some (vi x4), some (vi x5), some (vi x6), some (vi x7), u8, u9, u10, u11] h =
  if x7 < 384 then
    (am_b 384 x7 fun j1 =>
    am_b 384 x7 fun j2 =>
    rM_round d n 189 [some (vr 7 82), some (vi x1), some (vi x2), some (vi x3), some (vi x4), some (vi x5), some (vi x6), some (vi (x7 + 1)), u8, u9, u10, u11] (am_up h 121 j2 (h 122 j1)))
  else rM_round d n 57 [some (vr 7 82), some (vi x1), some (vi x2), some (vi x3), some (vi x4), some (vi x5), some (vi (x6 + 1)), some (vi x7), u8, u9, u10, u11] h := qM_round_189 (am_g d) n x1 x2 x3 x4 x5 x6 x7 u8 u9 u10 u11 h
def rM_hour (d n i : Nat) (ls : am_L) (h : am_H) : am_Z := am_run 0 (fun _ => 0) cM_hour (am_g d) n i ls h
theorem gM_hour (d : Nat) (x1 : Int32) (x2 : Int32) (x3 : Int32) (h : am_H) : am_g (d + 1) 149 [vr 7 82, vi x1, vi x2, vi x3] h =
  am_r1 (am_g d 110 [vr 7 82, vi x1] h) fun h1 v2 =>
  if v2 = 0 then
    (some (h1, some (-1)))
  else am_r1 (am_g d 95 [vl (Int32.toInt64 x2), vl (Int32.toInt64 0), vl (Int32.toInt64 23)] h1) fun h3 v4 =>
  if v4 = 0 then
    (some (h3, some (-1)))
  else am_r1 (am_g d 95 [vl (Int32.toInt64 x3), vl (Int32.toInt64 0), vl (Int32.toInt64 2)] h3) fun h5 v6 =>
  if v6 = 0 then
    (some (h5, some (-1)))
  else if x3 = 0 then
    (if x3 = 0 then
      (am_b 4 x1 fun j7 =>
      am_b 4 x1 fun j8 =>
      am_r1 (am_g d 126 [vi ((12 * x2) - (h5 109 j8)), vi (24 * 12)] h5) fun h9 v10 =>
      some (h9, some (((h5 109 j7) + v10) + 100000)))
    else if x3 = 1 then
      (am_b 4 x1 fun j11 =>
      am_b 12 (h5 108 j11) fun j12 =>
      am_b 4 x1 fun j13 =>
      am_b 4 x1 fun j14 =>
      am_r1 (am_g d 126 [vi (((x2 - (h5 87 j12)) * 12) - (h5 109 j14)), vi (24 * 12)] h5) fun h15 v16 =>
      some (h15, some (((h5 109 j13) + v16) + 100000)))
    else am_b 4 x1 fun j17 =>
    am_b 4 x1 fun j18 =>
    am_r1 (am_g d 126 [vi (x2 - (h5 110 j18)), vi 24] h5) fun h19 v20 =>
    am_b 4 x1 fun j21 =>
    am_b 4 x1 fun j22 =>
    am_r1 (am_g d 126 [vi (((h5 109 j17) + (v20 * 12)) - (h19 109 j22)), vi (24 * 12)] h19) fun h23 v24 =>
    some (h23, some (((h19 109 j21) + v24) + 100000)))
  else am_b 4 x1 fun j25 =>
  am_r1 (am_g d 112 [vr 7 82, vi (h5 108 j25)] h5) fun h26 v27 =>
  if x3 = 0 then
    (am_b 4 x1 fun j28 =>
    am_b 4 x1 fun j29 =>
    am_r1 (am_g d 126 [vi ((12 * x2) - (h26 109 j29)), vi (24 * v27)] h26) fun h30 v31 =>
    some (h30, some (((h26 109 j28) + v31) + 100000)))
  else if x3 = 1 then
    (am_b 4 x1 fun j32 =>
    am_b 12 (h26 108 j32) fun j33 =>
    am_b 4 x1 fun j34 =>
    am_b 4 x1 fun j35 =>
    am_r1 (am_g d 126 [vi (((x2 - (h26 87 j33)) * v27) - (h26 109 j35)), vi (24 * v27)] h26) fun h36 v37 =>
    some (h36, some (((h26 109 j34) + v37) + 100000)))
  else am_b 4 x1 fun j38 =>
  am_b 4 x1 fun j39 =>
  am_r1 (am_g d 126 [vi (x2 - (h26 110 j39)), vi 24] h26) fun h40 v41 =>
  am_b 4 x1 fun j42 =>
  am_b 4 x1 fun j43 =>
  am_r1 (am_g d 126 [vi (((h26 109 j38) + (v41 * v27)) - (h40 109 j43)), vi (24 * v27)] h40) fun h44 v45 =>
  some (h44, some (((h40 109 j42) + v45) + 100000)) := (am_g_run (tb := cM_hour) rfl rfl (Nat.le_of_ble_eq_true rfl) rfl).trans (qM_hour_0 (am_g d) 999999 x1 x2 x3 h)
def rM_agreed (d n i : Nat) (ls : am_L) (h : am_H) : am_Z := am_run 0 (fun _ => 0) cM_agreed (am_g d) n i ls h
theorem gM_agreed (d : Nat) (x1 : Int32) (x2 : Int32) (x3 : Int32) (h : am_H) : am_g (d + 1) 150 [vr 7 82, vi x1, vi x2, vi x3] h =
  am_r1 (am_g d 110 [vr 7 82, vi x1] h) fun h1 v2 =>
  if v2 = 0 then
    (some (h1, some (-1)))
  else am_r1 (am_g d 110 [vr 7 82, vi x2] h1) fun h3 v4 =>
  if v4 = 0 then
    (some (h3, some (-1)))
  else if x1 = x2 then
    (some (h3, some (-1)))
  else am_r1 (am_g d 95 [vl (Int32.toInt64 x3), vl (Int32.toInt64 0), vl (Int32.toInt64 23)] h3) fun h5 v6 =>
  if v6 = 0 then
    (some (h5, some (-1)))
  else am_b 4 x1 fun j7 =>
  am_r1 (am_g d 112 [vr 7 82, vi (h5 108 j7)] h5) fun h8 v9 =>
  am_b 4 x2 fun j10 =>
  am_r1 (am_g d 112 [vr 7 82, vi (h8 108 j10)] h8) fun h11 v12 =>
  am_b 4 x1 fun j13 =>
  am_b 4 x1 fun j14 =>
  am_r1 (am_g d 126 [vi (x3 - (h11 110 j14)), vi 24] h11) fun h15 v16 =>
  am_b 4 x1 fun j17 =>
  am_r1 (am_g d 112 [vr 7 82, vi (h15 108 j17)] h15) fun h18 v19 =>
  am_b 4 x2 fun j20 =>
  am_b 4 x2 fun j21 =>
  am_r1 (am_g d 126 [vi (x3 - (h18 110 j21)), vi 24] h18) fun h22 v23 =>
  am_b 4 x2 fun j24 =>
  am_r1 (am_g d 112 [vr 7 82, vi (h22 108 j24)] h22) fun h25 v26 =>
  rM_agreed d 999999 82 [some (vr 7 82), some (vi x1), some (vi x2), some (vi x3), some (vi (24 * v9)), some (vi (24 * v12)), some (vi ((h11 109 j13) + (v16 * v19))), some (vi ((h18 109 j20) + (v23 * v26))), some (vi ((h11 109 j13) + (v16 * v19)))] h25 := (am_g_run (tb := cM_agreed) rfl rfl (Nat.le_of_ble_eq_true rfl) rfl).trans (qM_agreed_0 (am_g d) 999999 x1 x2 x3 h)
theorem tM_agreed_82 (d n : Nat) (x1 : Int32) (x2 : Int32) (x3 : Int32) (x4 : Int32) (x5 : Int32) (x6 : Int32) (x7 : Int32) (x8 : Int32) (h : am_H) : rM_agreed d (n + 1) 82 [some (vr 7 82), some (vi x1), some (vi x2), some (vi x3), some (vi x4), some (vi x5), some (vi x6), some (vi x7), some (vi x8)] h =
  if 9999 < x8 then
    (some (h, some (-4)))
  else if x8 < x7 then
    (rM_agreed d n 82 [some (vr 7 82), some (vi x1), some (vi x2), some (vi x3), some (vi x4), some (vi x5), some (vi x6), some (vi x7), some (vi (x8 + x4))] h)
  else if x5 = 0 then none else
  if (am_rem (x8 - x7) x5) = 0 then
    (some (h, some (x8 + 100000)))
  else rM_agreed d n 82 [some (vr 7 82), some (vi x1), some (vi x2), some (vi x3), some (vi x4), some (vi x5), some (vi x6), some (vi x7), some (vi (x8 + x4))] h := qM_agreed_82 (am_g d) n x1 x2 x3 x4 x5 x6 x7 x8 h
def rM_shelf (d n i : Nat) (ls : am_L) (h : am_H) : am_Z := am_run 0 (fun _ => 0) cM_shelf (am_g d) n i ls h
theorem gM_shelf (d : Nat) (x1 : Int32) (x2 : Int32) (h : am_H) : am_g (d + 1) 151 [vr 7 82, vi x1, vi x2] h =
  am_r1 (am_g d 111 [vr 7 82, vi x1] h) fun h1 v2 =>
  if v2 = 0 then
    (some (h1, some (-1)))
  else am_r1 (am_g d 95 [vl (Int32.toInt64 x2), vl (Int32.toInt64 1), vl (Int32.toInt64 99)] h1) fun h3 v4 =>
  if v4 = 0 then
    (some (h3, some (-1)))
  else rM_shelf d 999999 19 [some (vr 7 82), some (vi x1), some (vi x2), some (vi 0), some (vi (-4)), some (vi 0), none] h3 := (am_g_run (tb := cM_shelf) rfl rfl (Nat.le_of_ble_eq_true rfl) rfl).trans (qM_shelf_0 (am_g d) 999999 x1 x2 h)
theorem tM_shelf_19 (d n : Nat) (x1 : Int32) (x2 : Int32) (x3 : Int32) (x4 : Int32) (x5 : Int32) (u6 : Option am_V) (h : am_H) : rM_shelf d (n + 1) 19 [some (vr 7 82), some (vi x1), some (vi x2), some (vi x3), some (vi x4), some (vi x5), u6] h =
  if x5 < (h 84 0) then
    (am_b 5 x1 fun j1 =>
    am_r1 (am_g d 113 [vr 7 82, vi x5, vi (12 * x2)] h) fun h2 v3 =>
    am_r1 (am_g d 132 [vr 7 82, vi x1, vi ((h 114 j1) + v3)] h2) fun h4 v5 =>
    if x4 < v5 then
      (if x4 < v5 then
        (rM_shelf d n 19 [some (vr 7 82), some (vi x1), some (vi x2), some (vi x5), some (vi v5), some (vi (x5 + 1)), some (vi v5)] h4)
      else rM_shelf d n 19 [some (vr 7 82), some (vi x1), some (vi x2), some (vi x5), some (vi x4), some (vi (x5 + 1)), some (vi v5)] h4)
    else if x4 < v5 then
      (rM_shelf d n 19 [some (vr 7 82), some (vi x1), some (vi x2), some (vi x3), some (vi v5), some (vi (x5 + 1)), some (vi v5)] h4)
    else rM_shelf d n 19 [some (vr 7 82), some (vi x1), some (vi x2), some (vi x3), some (vi x4), some (vi (x5 + 1)), some (vi v5)] h4)
  else some (h, some x3) := qM_shelf_19 (am_g d) n x1 x2 x3 x4 x5 u6 h
def rM_seen (d n i : Nat) (ls : am_L) (h : am_H) : am_Z := am_run 0 (fun _ => 0) cM_seen (am_g d) n i ls h
theorem gM_seen (d : Nat) (x1 : Int32) (x2 : Int32) (x3 : Int32) (h : am_H) : am_g (d + 1) 152 [vr 7 82, vi x1, vi x2, vi x3] h =
  am_r1 (am_g d 108 [vr 7 82, vi x1] h) fun h1 v2 =>
  if v2 = 0 then
    (some (h1, some (-1)))
  else am_r1 (am_g d 95 [vl (Int32.toInt64 x2), vl (Int32.toInt64 1), vl (Int32.toInt64 99)] h1) fun h3 v4 =>
  if v4 = 0 then
    (some (h3, some (-1)))
  else am_r1 (am_g d 95 [vl (Int32.toInt64 x3), vl (Int32.toInt64 0), vl (Int32.toInt64 400)] h3) fun h5 v6 =>
  if v6 = 0 then
    (some (h5, some (-1)))
  else if (h5 82 23) = 8 then
    (some (h5, some (-3)))
  else am_b 8 (h5 82 23) fun j7 =>
  am_b 8 (h5 82 23) fun j8 =>
  am_b 8 (h5 82 23) fun j9 =>
  some (am_up (am_up (am_up (am_up h5 104 j7 x1) 105 j8 x2) 106 j9 x3) 82 23 ((h5 82 23) + 1), some ((h5 82 23) + 1)) := (am_g_run (tb := cM_seen) rfl rfl (Nat.le_of_ble_eq_true rfl) rfl).trans (qM_seen_0 (am_g d) 999999 x1 x2 x3 h)
def rM_forget (d n i : Nat) (ls : am_L) (h : am_H) : am_Z := am_run 0 (fun _ => 0) cM_forget (am_g d) n i ls h
theorem gM_forget (d : Nat)  (h : am_H) : am_g (d + 1) 153 [vr 7 82] h =
  some (am_up h 82 23 0, some (h 82 23)) := (am_g_run (tb := cM_forget) rfl rfl (Nat.le_of_ble_eq_true rfl) rfl).trans (qM_forget_0 (am_g d) 999999  h)
def rM_onBy (d n i : Nat) (ls : am_L) (h : am_H) : am_Z := am_run 0 (fun _ => 0) cM_onBy (am_g d) n i ls h
theorem gM_onBy (d : Nat) (x0 : Int32) (x1 : Int32) (h : am_H) : am_g (d + 1) 154 [vi x0, vi x1] h =
  if (am_rem x0 4) + 1 = 0 then none else
  some (h, some ((x1 * ((x0 / 4) + 1)) / ((am_rem x0 4) + 1))) := (am_g_run (tb := cM_onBy) rfl rfl (Nat.le_of_ble_eq_true rfl) rfl).trans (qM_onBy_0 (am_g d) 999999 x0 x1 h)
def rM_pacesOf (d n i : Nat) (ls : am_L) (h : am_H) : am_Z := am_run 0 (fun _ => 0) cM_pacesOf (am_g d) n i ls h
theorem gM_pacesOf (d : Nat) (x1 : Int32) (h : am_H) : am_g (d + 1) 155 [vr 7 82, vi x1] h =
  rM_pacesOf d 999999 5 [some (vr 7 82), some (vi x1), some (vi 0), some (vi 0), none, none] h := (am_g_run (tb := cM_pacesOf) rfl rfl (Nat.le_of_ble_eq_true rfl) rfl).trans (qM_pacesOf_0 (am_g d) 999999 x1 h)
theorem tM_pacesOf_5 (d n : Nat) (x1 : Int32) (x2 : Int32) (x3 : Int32) (u4 : Option am_V) (u5 : Option am_V) (h : am_H) : rM_pacesOf d (n + 1) 5 [some (vr 7 82), some (vi x1), some (vi x2), some (vi x3), u4, u5] h =
  if x3 < 16 then
    (rM_pacesOf d n 13 [some (vr 7 82), some (vi x1), some (vi x2), some (vi x3), some (vi 1), some (vi 0)] h)
  else some (h, some x2) := qM_pacesOf_5 (am_g d) n x1 x2 x3 u4 u5 h
theorem tM_pacesOf_13 (d n : Nat) (x1 : Int32) (x2 : Int32) (x3 : Int32) (x4 : Int32) (x5 : Int32) (h : am_H) : rM_pacesOf d (n + 1) 13 [some (vr 7 82), some (vi x1), some (vi x2), some (vi x3), some (vi x4), some (vi x5)] h =
  if x5 < (h 82 23) then
    (if x4 = 0 then
      (rM_pacesOf d n 13 [some (vr 7 82), some (vi x1), some (vi x2), some (vi x3), some (vi 0), some (vi (x5 + 1))] h)
    else am_b 8 x5 fun j1 =>
    if (h 104 j1) = x1 then
      (am_b 8 x5 fun j2 =>
      am_r1 (am_g d 154 [vi x3, vi (h 105 j2)] h) fun h3 v4 =>
      am_b 8 x5 fun j5 =>
      if v4 = (h3 106 j5) then
        (rM_pacesOf d n 13 [some (vr 7 82), some (vi x1), some (vi x2), some (vi x3), some (vi 1), some (vi (x5 + 1))] h3)
      else rM_pacesOf d n 13 [some (vr 7 82), some (vi x1), some (vi x2), some (vi x3), some (vi 0), some (vi (x5 + 1))] h3)
    else rM_pacesOf d n 13 [some (vr 7 82), some (vi x1), some (vi x2), some (vi x3), some (vi 1), some (vi (x5 + 1))] h)
  else if x4 = 0 then
    (rM_pacesOf d n 5 [some (vr 7 82), some (vi x1), some (vi (x2 ||| 0)), some (vi (x3 + 1)), some (vi x4), some (vi x5)] h)
  else rM_pacesOf d n 5 [some (vr 7 82), some (vi x1), some (vi (x2 ||| ((1 : Int32) <<< (x3 &&& 31)))), some (vi (x3 + 1)), some (vi x4), some (vi x5)] h := qM_pacesOf_13 (am_g d) n x1 x2 x3 x4 x5 h
def rM_paces (d n i : Nat) (ls : am_L) (h : am_H) : am_Z := am_run 0 (fun _ => 0) cM_paces (am_g d) n i ls h
theorem gM_paces (d : Nat) (x1 : Int32) (h : am_H) : am_g (d + 1) 156 [vr 7 82, vi x1] h =
  am_r1 (am_g d 108 [vr 7 82, vi x1] h) fun h1 v2 =>
  if v2 = 0 then
    (some (h1, some (-1)))
  else am_r1 (am_g d 155 [vr 7 82, vi x1] h1) fun h3 v4 =>
  some (h3, some v4) := (am_g_run (tb := cM_paces) rfl rfl (Nat.le_of_ble_eq_true rfl) rfl).trans (qM_paces_0 (am_g d) 999999 x1 h)
def rM_look (d n i : Nat) (ls : am_L) (h : am_H) : am_Z := am_run 0 (fun _ => 0) cM_look (am_g d) n i ls h
theorem gM_look (d : Nat) (x1 : Int32) (x2 : Int32) (h : am_H) : am_g (d + 1) 157 [vr 7 82, vi x1, vi x2] h =
  am_r1 (am_g d 108 [vr 7 82, vi x1] h) fun h1 v2 =>
  if v2 = 0 then
    (some (h1, some (-1)))
  else am_r1 (am_g d 95 [vl (Int32.toInt64 x2), vl (Int32.toInt64 0), vl (Int32.toInt64 1)] h1) fun h3 v4 =>
  if v4 = 0 then
    (some (h3, some (-1)))
  else am_r1 (am_g d 155 [vr 7 82, vi x1] h3) fun h5 v6 =>
  rM_look d 999999 23 [some (vr 7 82), some (vi x1), some (vi x2), some (vi v6), some (vi (-4)), some (vi 0), some (vi 1), none, none, none, none] h5 := (am_g_run (tb := cM_look) rfl rfl (Nat.le_of_ble_eq_true rfl) rfl).trans (qM_look_0 (am_g d) 999999 x1 x2 h)
theorem tM_look_23 (d n : Nat) (x1 : Int32) (x2 : Int32) (x3 : Int32) (x4 : Int32) (x5 : Int32) (x6 : Int32) (u7 : Option am_V) (u8 : Option am_V) (u9 : Option am_V) (u10 : Option am_V) (h : am_H) : rM_look d (n + 1) 23 [some (vr 7 82), some (vi x1), some (vi x2), some (vi x3), some (vi x4), some (vi x5), some (vi x6), u7, u8, u9, u10] h =
  if 24 < x6 then
    (if x4 < 0 then
      (some (h, some x4))
    else if x2 = 0 then
      (some (h, some x4))
    else some (h, some x5))
  else if x3 = 0 then
    (if x4 < 0 then
      (some (h, some x4))
    else if x2 = 0 then
      (some (h, some x4))
    else some (h, some x5))
  else rM_look d n 33 [some (vr 7 82), some (vi x1), some (vi x2), some (vi x3), some (vi x4), some (vi x5), some (vi x6), some (vi 0), some (vi 0), u9, u10] h := qM_look_23 (am_g d) n x1 x2 x3 x4 x5 x6 u7 u8 u9 u10 h
theorem tM_look_33 (d n : Nat) (x1 : Int32) (x2 : Int32) (x3 : Int32) (x4 : Int32) (x5 : Int32) (x6 : Int32) (x7 : Int32) (x8 : Int32) (u9 : Option am_V) (u10 : Option am_V) (h : am_H) : rM_look d (n + 1) 33 [some (vr 7 82), some (vi x1), some (vi x2), some (vi x3), some (vi x4), some (vi x5), some (vi x6), some (vi x7), some (vi x8), u9, u10] h =
  if x8 < 16 then
    (rM_look d n 41 [some (vr 7 82), some (vi x1), some (vi x2), some (vi x3), some (vi x4), some (vi x5), some (vi x6), some (vi x7), some (vi x8), some (vi 0), some (vi 0)] h)
  else if x4 < 0 then
    (if x6 = x6 then
      (rM_look d n 23 [some (vr 7 82), some (vi x1), some (vi x2), some (vi x3), some (vi x6), some (vi x7), some (vi (x6 + 1)), some (vi x7), some (vi x8), u9, u10] h)
    else rM_look d n 23 [some (vr 7 82), some (vi x1), some (vi x2), some (vi x3), some (vi x6), some (vi x5), some (vi (x6 + 1)), some (vi x7), some (vi x8), u9, u10] h)
  else if x7 < x5 then
    (if x6 = x6 then
      (rM_look d n 23 [some (vr 7 82), some (vi x1), some (vi x2), some (vi x3), some (vi x6), some (vi x7), some (vi (x6 + 1)), some (vi x7), some (vi x8), u9, u10] h)
    else rM_look d n 23 [some (vr 7 82), some (vi x1), some (vi x2), some (vi x3), some (vi x6), some (vi x5), some (vi (x6 + 1)), some (vi x7), some (vi x8), u9, u10] h)
  else if x4 = x6 then
    (rM_look d n 23 [some (vr 7 82), some (vi x1), some (vi x2), some (vi x3), some (vi x4), some (vi x7), some (vi (x6 + 1)), some (vi x7), some (vi x8), u9, u10] h)
  else rM_look d n 23 [some (vr 7 82), some (vi x1), some (vi x2), some (vi x3), some (vi x4), some (vi x5), some (vi (x6 + 1)), some (vi x7), some (vi x8), u9, u10] h := qM_look_33 (am_g d) n x1 x2 x3 x4 x5 x6 x7 x8 u9 u10 h
theorem tM_look_41 (d n : Nat) (x1 : Int32) (x2 : Int32) (x3 : Int32) (x4 : Int32) (x5 : Int32) (x6 : Int32) (x7 : Int32) (x8 : Int32) (x9 : Int32) (x10 : Int32) (h : am_H) : rM_look d (n + 1) 41 [some (vr 7 82), some (vi x1), some (vi x2), some (vi x3), some (vi x4), some (vi x5), some (vi x6), some (vi x7), some (vi x8), some (vi x9), some (vi x10)] h =
  if x10 < 16 then
    (am_r1 (am_g d 96 [vi x3, vi x8] h) fun h1 v2 =>
    if v2 = 0 then
      (rM_look d n 41 [some (vr 7 82), some (vi x1), some (vi x2), some (vi x3), some (vi x4), some (vi x5), some (vi x6), some (vi x7), some (vi x8), some (vi (x9 + 0)), some (vi (x10 + 1))] h1)
    else am_r1 (am_g d 96 [vi x3, vi x10] h1) fun h3 v4 =>
    if v4 = 0 then
      (rM_look d n 41 [some (vr 7 82), some (vi x1), some (vi x2), some (vi x3), some (vi x4), some (vi x5), some (vi x6), some (vi x7), some (vi x8), some (vi (x9 + 0)), some (vi (x10 + 1))] h3)
    else am_r1 (am_g d 154 [vi x8, vi x6] h3) fun h5 v6 =>
    am_r1 (am_g d 154 [vi x10, vi x6] h5) fun h7 v8 =>
    if v6 = v8 then
      (rM_look d n 41 [some (vr 7 82), some (vi x1), some (vi x2), some (vi x3), some (vi x4), some (vi x5), some (vi x6), some (vi x7), some (vi x8), some (vi (x9 + 1)), some (vi (x10 + 1))] h7)
    else rM_look d n 41 [some (vr 7 82), some (vi x1), some (vi x2), some (vi x3), some (vi x4), some (vi x5), some (vi x6), some (vi x7), some (vi x8), some (vi (x9 + 0)), some (vi (x10 + 1))] h7)
  else if x7 < x9 then
    (rM_look d n 33 [some (vr 7 82), some (vi x1), some (vi x2), some (vi x3), some (vi x4), some (vi x5), some (vi x6), some (vi x9), some (vi (x8 + 1)), some (vi x9), some (vi x10)] h)
  else rM_look d n 33 [some (vr 7 82), some (vi x1), some (vi x2), some (vi x3), some (vi x4), some (vi x5), some (vi x6), some (vi x7), some (vi (x8 + 1)), some (vi x9), some (vi x10)] h := qM_look_41 (am_g d) n x1 x2 x3 x4 x5 x6 x7 x8 x9 x10 h
def rM_mended (d n i : Nat) (ls : am_L) (h : am_H) : am_Z := am_run 0 (fun _ => 0) cM_mended (am_g d) n i ls h
theorem gM_mended (d : Nat) (x1 : Int32) (h : am_H) : am_g (d + 1) 158 [vr 7 82, vi x1] h =
  am_r1 (am_g d 108 [vr 7 82, vi x1] h) fun h1 v2 =>
  if v2 = 0 then
    (some (h1, some (-1)))
  else rM_mended d 999999 9 [some (vr 7 82), some (vi x1), some (vi 0), none, none, none] h1 := (am_g_run (tb := cM_mended) rfl rfl (Nat.le_of_ble_eq_true rfl) rfl).trans (qM_mended_0 (am_g d) 999999 x1 h)
theorem tM_mended_9 (d n : Nat) (x1 : Int32) (x2 : Int32) (u3 : Option am_V) (u4 : Option am_V) (u5 : Option am_V) (h : am_H) : rM_mended d (n + 1) 9 [some (vr 7 82), some (vi x1), some (vi x2), u3, u4, u5] h =
  if x2 < 4 then
    (am_b 4 x2 fun j1 =>
    am_b 4 x2 fun j2 =>
    rM_mended d n 9 [some (vr 7 82), some (vi x1), some (vi (x2 + 1)), u3, u4, u5] (am_up h 123 j2 (h 109 j1)))
  else am_b 12 x1 fun j3 =>
  am_b 12 x1 fun j4 =>
  am_b 12 x1 fun j5 =>
  am_b 12 x1 fun j6 =>
  am_r0 (am_g d 123 [vr 7 82] (am_up (am_up h 85 j5 1) 86 j6 1)) fun h7 =>
  rM_mended d n 49 [some (vr 7 82), some (vi x1), some (vi (h 85 j3)), some (vi (h 86 j4)), some (vi 0), some (vi 0)] h7 := qM_mended_9 (am_g d) n x1 x2 u3 u4 u5 h
theorem tM_mended_49 (d n : Nat) (x1 : Int32) (x2 : Int32) (x3 : Int32) (x4 : Int32) (x5 : Int32) (h : am_H) : rM_mended d (n + 1) 49 [some (vr 7 82), some (vi x1), some (vi x2), some (vi x3), some (vi x4), some (vi x5)] h =
  if x5 < (h 92 0) then
    (am_b 4 x5 fun j1 =>
    am_b 4 x5 fun j2 =>
    if (h 109 j1) = (h 123 j2) then
      (rM_mended d n 49 [some (vr 7 82), some (vi x1), some (vi x2), some (vi x3), some (vi (x4 ||| 0)), some (vi (x5 + 1))] h)
    else rM_mended d n 49 [some (vr 7 82), some (vi x1), some (vi x2), some (vi x3), some (vi (x4 ||| ((1 : Int32) <<< (x5 &&& 31)))), some (vi (x5 + 1))] h)
  else am_b 12 x1 fun j3 =>
  am_b 12 x1 fun j4 =>
  am_r0 (am_g d 123 [vr 7 82] (am_up (am_up h 85 j3 x2) 86 j4 x3)) fun h5 =>
  some (h5, some x4) := qM_mended_49 (am_g d) n x1 x2 x3 x4 x5 h
def rM_day (d n i : Nat) (ls : am_L) (h : am_H) : am_Z := am_run 0 (fun _ => 0) cM_day (am_g d) n i ls h
theorem gM_day (d : Nat) (x1 : Int32) (x2 : Int32) (x3 : Int32) (h : am_H) : am_g (d + 1) 159 [vr 7 82, vi x1, vi x2, vi x3] h =
  am_r1 (am_g d 95 [vl (Int32.toInt64 x1), vl (Int32.toInt64 0), vl (Int32.toInt64 9999)] h) fun h1 v2 =>
  if v2 = 0 then
    (some (h1, some (-1)))
  else am_r1 (am_g d 110 [vr 7 82, vi x2] h1) fun h3 v4 =>
  if v4 = 0 then
    (some (h3, some (-1)))
  else am_r1 (am_g d 95 [vl (Int32.toInt64 x3), vl (Int32.toInt64 0), vl (Int32.toInt64 1)] h3) fun h5 v6 =>
  if v6 = 0 then
    (some (h5, some (-1)))
  else am_b 4 x2 fun j7 =>
  am_b 4 x2 fun j8 =>
  rM_day d 999999 31 [some (vr 7 82), some (vi x1), some (vi x2), some (vi x3), some (vi (h5 108 j7)), some (vi (h5 109 j8)), some (vi 0), none, none, none, none] h5 := (am_g_run (tb := cM_day) rfl rfl (Nat.le_of_ble_eq_true rfl) rfl).trans (qM_day_0 (am_g d) 999999 x1 x2 x3 h)
theorem tM_day_31 (d n : Nat) (x1 : Int32) (x2 : Int32) (x3 : Int32) (x4 : Int32) (x5 : Int32) (x6 : Int32) (u7 : Option am_V) (u8 : Option am_V) (u9 : Option am_V) (u10 : Option am_V) (h : am_H) : rM_day d (n + 1) 31 [some (vr 7 82), some (vi x1), some (vi x2), some (vi x3), some (vi x4), some (vi x5), some (vi x6), u7, u8, u9, u10] h =
  if x6 < 12 then
    (if Int32.toInt64 65521 = 0 then none else
    rM_day d n 54 [some (vr 7 82), some (vi x1), some (vi x2), some (vi x3), some (vi x4), some (vi x5), some (vi x6), some (vl ((((Int32.toInt64 7919) * (Int32.toInt64 x1)) + ((Int32.toInt64 6151) * (Int32.toInt64 x6))) + (Int32.toInt64 1))), none, some (vi (Int64.toInt32 (am_reml (((((Int32.toInt64 7919) * (Int32.toInt64 x1)) + ((Int32.toInt64 6151) * (Int32.toInt64 x6))) + (Int32.toInt64 1)) * ((((Int32.toInt64 7919) * (Int32.toInt64 x1)) + ((Int32.toInt64 6151) * (Int32.toInt64 x6))) + (Int32.toInt64 1))) (Int32.toInt64 65521)))), u10] h)
  else if x3 = 0 then
    (some (h, some (x5 + 100000)))
  else some (h, some x4) := qM_day_31 (am_g d) n x1 x2 x3 x4 x5 x6 u7 u8 u9 u10 h
theorem tM_day_54 (d n : Nat) (x1 : Int32) (x2 : Int32) (x3 : Int32) (x4 : Int32) (x5 : Int32) (x6 : Int32) (y7 : Int64) (u8 : Option am_V) (x9 : Int32) (u10 : Option am_V) (h : am_H) : rM_day d (n + 1) 54 [some (vr 7 82), some (vi x1), some (vi x2), some (vi x3), some (vi x4), some (vi x5), some (vi x6), some (vl y7), u8, some (vi x9), u10] h =
  if (am_rem x9 3) = 0 then
    (am_r1 (am_g d 112 [vr 7 82, vi x4] h) fun h1 v2 =>
    rM_day d n 31 [some (vr 7 82), some (vi x1), some (vi x2), some (vi x3), some (vi x4), some (vi (x5 + (((am_rem (x9 / 4) 3) + 1) * v2))), some (vi (x6 + 1)), some (vl y7), u8, some (vi x9), u10] h1)
  else if 0 < (h 88 0) then
    (if h 88 0 = 0 then none else
    am_r1 (am_g d 115 [vr 7 82, vi (am_rem (x9 / 8) (h 88 0)), vi x4] h) fun h3 v4 =>
    if v4 = 0 then
      (rM_day d n 31 [some (vr 7 82), some (vi x1), some (vi x2), some (vi x3), some (vi x4), some (vi x5), some (vi (x6 + 1)), some (vl y7), u8, some (vi x9), u10] h3)
    else if h3 88 0 = 0 then none else
    am_r1 (am_g d 142 [vr 7 82, vi (am_rem (x9 / 8) (h3 88 0)), vi x4] h3) fun h5 v6 =>
    am_r1 (am_g d 117 [vr 7 82, vi (am_rem (x9 / 8) (h3 88 0)), vi x4] h5) fun h7 v8 =>
    rM_day d n 31 [some (vr 7 82), some (vi x1), some (vi x2), some (vi x3), some (vi v8), some (vi (x5 + v6)), some (vi (x6 + 1)), some (vl y7), u8, some (vi x9), some (vi (am_rem (x9 / 8) (h3 88 0)))] h7)
  else rM_day d n 31 [some (vr 7 82), some (vi x1), some (vi x2), some (vi x3), some (vi x4), some (vi x5), some (vi (x6 + 1)), some (vl y7), u8, some (vi x9), u10] h := qM_day_54 (am_g d) n x1 x2 x3 x4 x5 x6 y7 u8 x9 u10 h
def rM_copy (d n i : Nat) (ls : am_L) (h : am_H) : am_Z := am_run 0 (fun _ => 0) cM_copy (am_g d) n i ls h
theorem gM_copy (d : Nat) (x1 : Int32) (x2 : Int32) (h : am_H) : am_g (d + 1) 160 [vr 7 82, vi x1, vi x2] h =
  am_b 3 x1 fun j1 =>
  am_b 3 x2 fun j2 =>
  rM_copy d 999999 11 [some (vr 7 82), some (vi x1), some (vi x2), some (vi 0)] (am_up h 100 j2 (h 100 j1)) := (am_g_run (tb := cM_copy) rfl rfl (Nat.le_of_ble_eq_true rfl) rfl).trans (qM_copy_0 (am_g d) 999999 x1 x2 h)
theorem tM_copy_11 (d n : Nat) (x1 : Int32) (x2 : Int32) (x3 : Int32) (h : am_H) : rM_copy d (n + 1) 11 [some (vr 7 82), some (vi x1), some (vi x2), some (vi x3)] h =
  if x3 < 40 then
    (am_b 120 ((40 * x1) + x3) fun j1 =>
    am_b 120 ((40 * x2) + x3) fun j2 =>
    am_b 120 ((40 * x1) + x3) fun j3 =>
    am_b 120 ((40 * x2) + x3) fun j4 =>
    am_b 120 ((40 * x1) + x3) fun j5 =>
    am_b 120 ((40 * x2) + x3) fun j6 =>
    rM_copy d n 11 [some (vr 7 82), some (vi x1), some (vi x2), some (vi (x3 + 1))] (am_up (am_up (am_up h 101 j2 (h 101 j1)) 102 j4 (h 102 j3)) 103 j6 (h 103 j5)))
  else some (h, none) := qM_copy_11 (am_g d) n x1 x2 x3 h
def rM_keep (d n i : Nat) (ls : am_L) (h : am_H) : am_Z := am_run 0 (fun _ => 0) cM_keep (am_g d) n i ls h
theorem gM_keep (d : Nat)  (h : am_H) : am_g (d + 1) 161 [vr 7 82] h =
  if (h 82 22) = 2 then
    (some (h, some (-3)))
  else am_r0 (am_g d 160 [vr 7 82, vi 0, vi ((h 82 22) + 1)] (am_up h 82 22 ((h 82 22) + 1))) fun h1 =>
  some (h1, some (h1 82 22)) := (am_g_run (tb := cM_keep) rfl rfl (Nat.le_of_ble_eq_true rfl) rfl).trans (qM_keep_0 (am_g d) 999999  h)
def rM_back (d n i : Nat) (ls : am_L) (h : am_H) : am_Z := am_run 0 (fun _ => 0) cM_back (am_g d) n i ls h
theorem gM_back (d : Nat)  (h : am_H) : am_g (d + 1) 162 [vr 7 82] h =
  if (h 82 22) = 0 then
    (some (h, some (-2)))
  else am_r0 (am_g d 160 [vr 7 82, vi (h 82 22), vi 0] h) fun h1 =>
  am_r0 (am_g d 123 [vr 7 82] (am_up h1 82 22 ((h1 82 22) - 1))) fun h2 =>
  some (h2, some (h2 82 22)) := (am_g_run (tb := cM_back) rfl rfl (Nat.le_of_ble_eq_true rfl) rfl).trans (qM_back_0 (am_g d) 999999  h)
def rM_count (d n i : Nat) (ls : am_L) (h : am_H) : am_Z := am_run 0 (fun _ => 0) cM_count (am_g d) n i ls h
theorem gM_count (d : Nat) (x1 : Int32) (h : am_H) : am_g (d + 1) 163 [vr 7 82, vi x1] h =
  if x1 = nI 0 then
    (some (h, some (h 84 0)))
  else if x1 = nI 1 then
    (some (h, some (h 88 0)))
  else if x1 = nI 2 then
    (some (h, some (h 92 0)))
  else if x1 = nI 3 then
    (some (h, some (h 95 0)))
  else if x1 = nI 4 then
    (some (h, some (h 100 0)))
  else if x1 = nI 5 then
    (some (h, some (h 82 23)))
  else if x1 = nI 6 then
    (some (h, some (h 82 22)))
  else if x1 = nI 7 then
    (some (h, some (h 82 0)))
  else if x1 = nI 8 then
    (some (h, some (h 99 0)))
  else some (h, some (-1)) := (am_g_run (tb := cM_count) rfl rfl (Nat.le_of_ble_eq_true rfl) rfl).trans (qM_count_0 (am_g d) 999999 x1 h)
