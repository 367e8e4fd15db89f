/-! CALLS as equations, the class; by program -/
theorem am_g_eq (d z : Nat) (as : List am_V) (h : am_H) : am_g (d + 1) z as h = if (am_mt z).2.2.1 < am_cats as then none else am_run 0 (fun _ => 0) (am_ts z) (am_g d) 1000000 0 (am_ent as (am_mt z).2.2.1) h := rfl
theorem am_g_run {d z nL : Nat} {tb : List am_W} {as : List am_V} {h : am_H} {ls : am_L} (hz : am_lkE am_EL z = ((am_lkE am_EL z).1, tb)) (hm : (am_mt z).2.2.1 = nL) (hc : am_cats as ≤ nL) (hl : am_ent as nL = ls) : am_g (d + 1) z as h = am_run 0 (fun _ => 0) tb (am_g d) (999999 + 1) 0 ls h := by
  rw [am_g_eq, hm, if_neg (by omega), hl]
  have : am_ts z = tb := by unfold am_ts; rw [hz]
  rw [this]
def rA_add (d n i : Nat) (ls : am_L) (h : am_H) : am_Z := am_run 0 (fun _ => 0) cA_add (am_g d) n i ls h
theorem gA_add (d : Nat) (a0 : Nat) (x1 : Int32) (x2 : Int32) (x3 : Int32) (h : am_H) : am_g (d + 1) 0 [vr 0 a0, vi x1, vi x2, vi x3] h =
  if (h a0 3) < 40 then
    (am_b 40 (h a0 3) fun j1 =>
    am_b 40 ((am_up h (a0 + 1) j1 x1) a0 3) fun j2 =>
    am_b 40 ((am_up (am_up h (a0 + 1) j1 x1) (a0 + 2) j2 x2) a0 3) fun j3 =>
    some (am_up (am_up (am_up (am_up h (a0 + 1) j1 x1) (a0 + 2) j2 x2) (a0 + 3) j3 x3) a0 3 (((am_up (am_up (am_up h (a0 + 1) j1 x1) (a0 + 2) j2 x2) (a0 + 3) j3 x3) a0 3) + 1), some 1))
  else some (h, some 0) := (am_g_run (tb := cA_add) rfl rfl (Nat.le_of_ble_eq_true rfl) rfl).trans (qA_add_0 (am_g d) 999999 a0 x1 x2 x3 h)
def rA_copy (d n i : Nat) (ls : am_L) (h : am_H) : am_Z := am_run 0 (fun _ => 0) cA_copy (am_g d) n i ls h
theorem gA_copy (d : Nat) (a0 : Nat) (a1 : Nat) (h : am_H) : am_g (d + 1) 1 [vr 0 a0, vr 0 a1] h =
  if (0 : Int32) < 0 ∨ (0 : Int32) < 0 ∨ ((am_up h a0 3 (h a1 3)) a0 3) < 0 ∨ 40 < (0 : Int32).toNatClampNeg + Int32.toNatClampNeg ((am_up h a0 3 (h a1 3)) a0 3) ∨ 40 < (0 : Int32).toNatClampNeg + Int32.toNatClampNeg ((am_up h a0 3 (h a1 3)) a0 3) then none else
  if (0 : Int32) < 0 ∨ (0 : Int32) < 0 ∨ ((va_up (am_up h a0 3 (h a1 3)) (a0 + 1) (va_cpy ((am_up h a0 3 (h a1 3)) (a1 + 1)) ((am_up h a0 3 (h a1 3)) (a0 + 1)) (0 : Int32).toNatClampNeg (0 : Int32).toNatClampNeg (Int32.toNatClampNeg ((am_up h a0 3 (h a1 3)) a0 3)))) a0 3) < 0 ∨ 40 < (0 : Int32).toNatClampNeg + Int32.toNatClampNeg ((va_up (am_up h a0 3 (h a1 3)) (a0 + 1) (va_cpy ((am_up h a0 3 (h a1 3)) (a1 + 1)) ((am_up h a0 3 (h a1 3)) (a0 + 1)) (0 : Int32).toNatClampNeg (0 : Int32).toNatClampNeg (Int32.toNatClampNeg ((am_up h a0 3 (h a1 3)) a0 3)))) a0 3) ∨ 40 < (0 : Int32).toNatClampNeg + Int32.toNatClampNeg ((va_up (am_up h a0 3 (h a1 3)) (a0 + 1) (va_cpy ((am_up h a0 3 (h a1 3)) (a1 + 1)) ((am_up h a0 3 (h a1 3)) (a0 + 1)) (0 : Int32).toNatClampNeg (0 : Int32).toNatClampNeg (Int32.toNatClampNeg ((am_up h a0 3 (h a1 3)) a0 3)))) a0 3) then none else
  if (0 : Int32) < 0 ∨ (0 : Int32) < 0 ∨ ((va_up (va_up (am_up h a0 3 (h a1 3)) (a0 + 1) (va_cpy ((am_up h a0 3 (h a1 3)) (a1 + 1)) ((am_up h a0 3 (h a1 3)) (a0 + 1)) (0 : Int32).toNatClampNeg (0 : Int32).toNatClampNeg (Int32.toNatClampNeg ((am_up h a0 3 (h a1 3)) a0 3)))) (a0 + 2) (va_cpy ((va_up (am_up h a0 3 (h a1 3)) (a0 + 1) (va_cpy ((am_up h a0 3 (h a1 3)) (a1 + 1)) ((am_up h a0 3 (h a1 3)) (a0 + 1)) (0 : Int32).toNatClampNeg (0 : Int32).toNatClampNeg (Int32.toNatClampNeg ((am_up h a0 3 (h a1 3)) a0 3)))) (a1 + 2)) ((va_up (am_up h a0 3 (h a1 3)) (a0 + 1) (va_cpy ((am_up h a0 3 (h a1 3)) (a1 + 1)) ((am_up h a0 3 (h a1 3)) (a0 + 1)) (0 : Int32).toNatClampNeg (0 : Int32).toNatClampNeg (Int32.toNatClampNeg ((am_up h a0 3 (h a1 3)) a0 3)))) (a0 + 2)) (0 : Int32).toNatClampNeg (0 : Int32).toNatClampNeg (Int32.toNatClampNeg ((va_up (am_up h a0 3 (h a1 3)) (a0 + 1) (va_cpy ((am_up h a0 3 (h a1 3)) (a1 + 1)) ((am_up h a0 3 (h a1 3)) (a0 + 1)) (0 : Int32).toNatClampNeg (0 : Int32).toNatClampNeg (Int32.toNatClampNeg ((am_up h a0 3 (h a1 3)) a0 3)))) a0 3)))) a0 3) < 0 ∨ 40 < (0 : Int32).toNatClampNeg + Int32.toNatClampNeg ((va_up (va_up (am_up h a0 3 (h a1 3)) (a0 + 1) (va_cpy ((am_up h a0 3 (h a1 3)) (a1 + 1)) ((am_up h a0 3 (h a1 3)) (a0 + 1)) (0 : Int32).toNatClampNeg (0 : Int32).toNatClampNeg (Int32.toNatClampNeg ((am_up h a0 3 (h a1 3)) a0 3)))) (a0 + 2) (va_cpy ((va_up (am_up h a0 3 (h a1 3)) (a0 + 1) (va_cpy ((am_up h a0 3 (h a1 3)) (a1 + 1)) ((am_up h a0 3 (h a1 3)) (a0 + 1)) (0 : Int32).toNatClampNeg (0 : Int32).toNatClampNeg (Int32.toNatClampNeg ((am_up h a0 3 (h a1 3)) a0 3)))) (a1 + 2)) ((va_up (am_up h a0 3 (h a1 3)) (a0 + 1) (va_cpy ((am_up h a0 3 (h a1 3)) (a1 + 1)) ((am_up h a0 3 (h a1 3)) (a0 + 1)) (0 : Int32).toNatClampNeg (0 : Int32).toNatClampNeg (Int32.toNatClampNeg ((am_up h a0 3 (h a1 3)) a0 3)))) (a0 + 2)) (0 : Int32).toNatClampNeg (0 : Int32).toNatClampNeg (Int32.toNatClampNeg ((va_up (am_up h a0 3 (h a1 3)) (a0 + 1) (va_cpy ((am_up h a0 3 (h a1 3)) (a1 + 1)) ((am_up h a0 3 (h a1 3)) (a0 + 1)) (0 : Int32).toNatClampNeg (0 : Int32).toNatClampNeg (Int32.toNatClampNeg ((am_up h a0 3 (h a1 3)) a0 3)))) a0 3)))) a0 3) ∨ 40 < (0 : Int32).toNatClampNeg + Int32.toNatClampNeg ((va_up (va_up (am_up h a0 3 (h a1 3)) (a0 + 1) (va_cpy ((am_up h a0 3 (h a1 3)) (a1 + 1)) ((am_up h a0 3 (h a1 3)) (a0 + 1)) (0 : Int32).toNatClampNeg (0 : Int32).toNatClampNeg (Int32.toNatClampNeg ((am_up h a0 3 (h a1 3)) a0 3)))) (a0 + 2) (va_cpy ((va_up (am_up h a0 3 (h a1 3)) (a0 + 1) (va_cpy ((am_up h a0 3 (h a1 3)) (a1 + 1)) ((am_up h a0 3 (h a1 3)) (a0 + 1)) (0 : Int32).toNatClampNeg (0 : Int32).toNatClampNeg (Int32.toNatClampNeg ((am_up h a0 3 (h a1 3)) a0 3)))) (a1 + 2)) ((va_up (am_up h a0 3 (h a1 3)) (a0 + 1) (va_cpy ((am_up h a0 3 (h a1 3)) (a1 + 1)) ((am_up h a0 3 (h a1 3)) (a0 + 1)) (0 : Int32).toNatClampNeg (0 : Int32).toNatClampNeg (Int32.toNatClampNeg ((am_up h a0 3 (h a1 3)) a0 3)))) (a0 + 2)) (0 : Int32).toNatClampNeg (0 : Int32).toNatClampNeg (Int32.toNatClampNeg ((va_up (am_up h a0 3 (h a1 3)) (a0 + 1) (va_cpy ((am_up h a0 3 (h a1 3)) (a1 + 1)) ((am_up h a0 3 (h a1 3)) (a0 + 1)) (0 : Int32).toNatClampNeg (0 : Int32).toNatClampNeg (Int32.toNatClampNeg ((am_up h a0 3 (h a1 3)) a0 3)))) a0 3)))) a0 3) then none else
  some (va_up (va_up (va_up (am_up h a0 3 (h a1 3)) (a0 + 1) (va_cpy ((am_up h a0 3 (h a1 3)) (a1 + 1)) ((am_up h a0 3 (h a1 3)) (a0 + 1)) (0 : Int32).toNatClampNeg (0 : Int32).toNatClampNeg (Int32.toNatClampNeg ((am_up h a0 3 (h a1 3)) a0 3)))) (a0 + 2) (va_cpy ((va_up (am_up h a0 3 (h a1 3)) (a0 + 1) (va_cpy ((am_up h a0 3 (h a1 3)) (a1 + 1)) ((am_up h a0 3 (h a1 3)) (a0 + 1)) (0 : Int32).toNatClampNeg (0 : Int32).toNatClampNeg (Int32.toNatClampNeg ((am_up h a0 3 (h a1 3)) a0 3)))) (a1 + 2)) ((va_up (am_up h a0 3 (h a1 3)) (a0 + 1) (va_cpy ((am_up h a0 3 (h a1 3)) (a1 + 1)) ((am_up h a0 3 (h a1 3)) (a0 + 1)) (0 : Int32).toNatClampNeg (0 : Int32).toNatClampNeg (Int32.toNatClampNeg ((am_up h a0 3 (h a1 3)) a0 3)))) (a0 + 2)) (0 : Int32).toNatClampNeg (0 : Int32).toNatClampNeg (Int32.toNatClampNeg ((va_up (am_up h a0 3 (h a1 3)) (a0 + 1) (va_cpy ((am_up h a0 3 (h a1 3)) (a1 + 1)) ((am_up h a0 3 (h a1 3)) (a0 + 1)) (0 : Int32).toNatClampNeg (0 : Int32).toNatClampNeg (Int32.toNatClampNeg ((am_up h a0 3 (h a1 3)) a0 3)))) a0 3)))) (a0 + 3) (va_cpy ((va_up (va_up (am_up h a0 3 (h a1 3)) (a0 + 1) (va_cpy ((am_up h a0 3 (h a1 3)) (a1 + 1)) ((am_up h a0 3 (h a1 3)) (a0 + 1)) (0 : Int32).toNatClampNeg (0 : Int32).toNatClampNeg (Int32.toNatClampNeg ((am_up h a0 3 (h a1 3)) a0 3)))) (a0 + 2) (va_cpy ((va_up (am_up h a0 3 (h a1 3)) (a0 + 1) (va_cpy ((am_up h a0 3 (h a1 3)) (a1 + 1)) ((am_up h a0 3 (h a1 3)) (a0 + 1)) (0 : Int32).toNatClampNeg (0 : Int32).toNatClampNeg (Int32.toNatClampNeg ((am_up h a0 3 (h a1 3)) a0 3)))) (a1 + 2)) ((va_up (am_up h a0 3 (h a1 3)) (a0 + 1) (va_cpy ((am_up h a0 3 (h a1 3)) (a1 + 1)) ((am_up h a0 3 (h a1 3)) (a0 + 1)) (0 : Int32).toNatClampNeg (0 : Int32).toNatClampNeg (Int32.toNatClampNeg ((am_up h a0 3 (h a1 3)) a0 3)))) (a0 + 2)) (0 : Int32).toNatClampNeg (0 : Int32).toNatClampNeg (Int32.toNatClampNeg ((va_up (am_up h a0 3 (h a1 3)) (a0 + 1) (va_cpy ((am_up h a0 3 (h a1 3)) (a1 + 1)) ((am_up h a0 3 (h a1 3)) (a0 + 1)) (0 : Int32).toNatClampNeg (0 : Int32).toNatClampNeg (Int32.toNatClampNeg ((am_up h a0 3 (h a1 3)) a0 3)))) a0 3)))) (a1 + 3)) ((va_up (va_up (am_up h a0 3 (h a1 3)) (a0 + 1) (va_cpy ((am_up h a0 3 (h a1 3)) (a1 + 1)) ((am_up h a0 3 (h a1 3)) (a0 + 1)) (0 : Int32).toNatClampNeg (0 : Int32).toNatClampNeg (Int32.toNatClampNeg ((am_up h a0 3 (h a1 3)) a0 3)))) (a0 + 2) (va_cpy ((va_up (am_up h a0 3 (h a1 3)) (a0 + 1) (va_cpy ((am_up h a0 3 (h a1 3)) (a1 + 1)) ((am_up h a0 3 (h a1 3)) (a0 + 1)) (0 : Int32).toNatClampNeg (0 : Int32).toNatClampNeg (Int32.toNatClampNeg ((am_up h a0 3 (h a1 3)) a0 3)))) (a1 + 2)) ((va_up (am_up h a0 3 (h a1 3)) (a0 + 1) (va_cpy ((am_up h a0 3 (h a1 3)) (a1 + 1)) ((am_up h a0 3 (h a1 3)) (a0 + 1)) (0 : Int32).toNatClampNeg (0 : Int32).toNatClampNeg (Int32.toNatClampNeg ((am_up h a0 3 (h a1 3)) a0 3)))) (a0 + 2)) (0 : Int32).toNatClampNeg (0 : Int32).toNatClampNeg (Int32.toNatClampNeg ((va_up (am_up h a0 3 (h a1 3)) (a0 + 1) (va_cpy ((am_up h a0 3 (h a1 3)) (a1 + 1)) ((am_up h a0 3 (h a1 3)) (a0 + 1)) (0 : Int32).toNatClampNeg (0 : Int32).toNatClampNeg (Int32.toNatClampNeg ((am_up h a0 3 (h a1 3)) a0 3)))) a0 3)))) (a0 + 3)) (0 : Int32).toNatClampNeg (0 : Int32).toNatClampNeg (Int32.toNatClampNeg ((va_up (va_up (am_up h a0 3 (h a1 3)) (a0 + 1) (va_cpy ((am_up h a0 3 (h a1 3)) (a1 + 1)) ((am_up h a0 3 (h a1 3)) (a0 + 1)) (0 : Int32).toNatClampNeg (0 : Int32).toNatClampNeg (Int32.toNatClampNeg ((am_up h a0 3 (h a1 3)) a0 3)))) (a0 + 2) (va_cpy ((va_up (am_up h a0 3 (h a1 3)) (a0 + 1) (va_cpy ((am_up h a0 3 (h a1 3)) (a1 + 1)) ((am_up h a0 3 (h a1 3)) (a0 + 1)) (0 : Int32).toNatClampNeg (0 : Int32).toNatClampNeg (Int32.toNatClampNeg ((am_up h a0 3 (h a1 3)) a0 3)))) (a1 + 2)) ((va_up (am_up h a0 3 (h a1 3)) (a0 + 1) (va_cpy ((am_up h a0 3 (h a1 3)) (a1 + 1)) ((am_up h a0 3 (h a1 3)) (a0 + 1)) (0 : Int32).toNatClampNeg (0 : Int32).toNatClampNeg (Int32.toNatClampNeg ((am_up h a0 3 (h a1 3)) a0 3)))) (a0 + 2)) (0 : Int32).toNatClampNeg (0 : Int32).toNatClampNeg (Int32.toNatClampNeg ((va_up (am_up h a0 3 (h a1 3)) (a0 + 1) (va_cpy ((am_up h a0 3 (h a1 3)) (a1 + 1)) ((am_up h a0 3 (h a1 3)) (a0 + 1)) (0 : Int32).toNatClampNeg (0 : Int32).toNatClampNeg (Int32.toNatClampNeg ((am_up h a0 3 (h a1 3)) a0 3)))) a0 3)))) a0 3))), none) := (am_g_run (tb := cA_copy) rfl rfl (Nat.le_of_ble_eq_true rfl) rfl).trans (qA_copy_0 (am_g d) 999999 a0 a1 h)
def rK_begin (d n i : Nat) (ls : am_L) (h : am_H) : am_Z := am_run 0 (fun _ => 0) cK_begin (am_g d) n i ls h
theorem gK_begin (d : Nat) (a0 : Nat) (a1 : Nat) (x2 : Int32) (h : am_H) : am_g (d + 1) 2 [vr 1 a0, vr 2 a1, vi x2] h =
  rK_begin d 999999 12 [some (vr 1 a0), some (vr 2 a1), some (vi x2), some (vi 0)] (am_up (am_up (am_up h a0 0 (nI a1)) a0 1 x2) a0 14 0) := (am_g_run (tb := cK_begin) rfl rfl (Nat.le_of_ble_eq_true rfl) rfl).trans (qK_begin_0 (am_g d) 999999 a0 a1 x2 h)
theorem tK_begin_12 (d n : Nat) (a0 : Nat) (a1 : Nat) (x2 : Int32) (x3 : Int32) (h : am_H) : rK_begin d (n + 1) 12 [some (vr 1 a0), some (vr 2 a1), some (vi x2), some (vi x3)] h =
  if x3 < (h (Int32.toNatClampNeg (h a0 0)) 16) then
    (am_b 4 x3 fun j1 =>
    am_b 4 x3 fun j2 =>
    am_b 4 x3 fun j3 =>
    am_b 4 x3 fun j4 =>
    am_r0 (am_g d 9 [vr 1 a0, vi x3, vi ((am_up (am_up h (a0 + 2) j1 0) (a0 + 3) j3 ((am_up h (a0 + 2) j1 0) ((Int32.toNatClampNeg ((am_up h (a0 + 2) j1 0) a0 0)) + 10) j2)) ((Int32.toNatClampNeg ((am_up (am_up h (a0 + 2) j1 0) (a0 + 3) j3 ((am_up h (a0 + 2) j1 0) ((Int32.toNatClampNeg ((am_up h (a0 + 2) j1 0) a0 0)) + 10) j2)) a0 0)) + 9) j4)] (am_up (am_up h (a0 + 2) j1 0) (a0 + 3) j3 ((am_up h (a0 + 2) j1 0) ((Int32.toNatClampNeg ((am_up h (a0 + 2) j1 0) a0 0)) + 10) j2))) fun h5 =>
    rK_begin d n 12 [some (vr 1 a0), some (vr 2 a1), some (vi x2), some (vi (x3 + 1))] h5)
  else rK_begin d n 44 [some (vr 1 a0), some (vr 2 a1), some (vi x2), some (vi 0)] h := qK_begin_12 (am_g d) n a0 a1 x2 x3 h
theorem tK_begin_44 (d n : Nat) (a0 : Nat) (a1 : Nat) (x2 : Int32) (x3 : Int32) (h : am_H) : rK_begin d (n + 1) 44 [some (vr 1 a0), some (vr 2 a1), some (vi x2), some (vi x3)] h =
  if x3 < (h (Int32.toNatClampNeg (h a0 0)) 17) then
    (am_b 5 x3 fun j1 =>
    am_b 5 x3 fun j2 =>
    am_b 5 x3 fun j3 =>
    am_b 5 x3 fun j4 =>
    am_b 5 x3 fun j5 =>
    rK_begin d n 44 [some (vr 1 a0), some (vr 2 a1), some (vi x2), some (vi (x3 + 1))] (am_up (am_up (am_up (am_up h (a0 + 5) j2 (h ((Int32.toNatClampNeg (h a0 0)) + 11) j1)) (a0 + 6) j3 (-4)) (a0 + 7) j4 0) (a0 + 8) j5 0))
  else some (h, none) := qK_begin_44 (am_g d) n a0 a1 x2 x3 h
def rK_perform (d n i : Nat) (ls : am_L) (h : am_H) : am_Z := am_run 0 (fun _ => 0) cK_perform (am_g d) n i ls h
theorem gK_perform (d : Nat) (a0 : Nat) (x1 : Int32) (x2 : Int32) (x3 : Int32) (h : am_H) : am_g (d + 1) 3 [vr 1 a0, vi x1, vi x2, vi x3] h =
  if x1 = 0 then
    (am_r0 (am_g d 7 [vr 1 a0, vi x2, vi x3] h) fun h1 =>
    some (h1, none))
  else if x1 = 1 then
    (am_r1 (am_g d 4 [vr 1 a0, vi x2, vi x3] h) fun h2 v3 =>
    if v3 = 0 then
      (if x1 = 2 then
        (am_r1 (am_g d 5 [vr 1 a0, vi x2, vi x3] h2) fun h4 v5 =>
        if v5 = 0 then
          (if x1 = 3 then
            (am_r1 (am_g d 6 [vr 1 a0, vi x2, vi x3] h4) fun h6 v7 =>
            if v7 = 0 then
              (some (h6, none))
            else am_r0 (am_g d 11 [vr 1 a0, vi x2, vi x3] h6) fun h8 =>
            some (h8, none))
          else some (h4, none))
        else am_r0 (am_g d 10 [vr 1 a0, vi x2, vi x3] h4) fun h9 =>
        some (h9, none))
      else if x1 = 3 then
        (am_r1 (am_g d 6 [vr 1 a0, vi x2, vi x3] h2) fun h10 v11 =>
        if v11 = 0 then
          (some (h10, none))
        else am_r0 (am_g d 11 [vr 1 a0, vi x2, vi x3] h10) fun h12 =>
        some (h12, none))
      else some (h2, none))
    else am_r0 (am_g d 8 [vr 1 a0, vi x2, vi x3] h2) fun h13 =>
    some (h13, none))
  else if x1 = 2 then
    (am_r1 (am_g d 5 [vr 1 a0, vi x2, vi x3] h) fun h14 v15 =>
    if v15 = 0 then
      (if x1 = 3 then
        (am_r1 (am_g d 6 [vr 1 a0, vi x2, vi x3] h14) fun h16 v17 =>
        if v17 = 0 then
          (some (h16, none))
        else am_r0 (am_g d 11 [vr 1 a0, vi x2, vi x3] h16) fun h18 =>
        some (h18, none))
      else some (h14, none))
    else am_r0 (am_g d 10 [vr 1 a0, vi x2, vi x3] h14) fun h19 =>
    some (h19, none))
  else if x1 = 3 then
    (am_r1 (am_g d 6 [vr 1 a0, vi x2, vi x3] h) fun h20 v21 =>
    if v21 = 0 then
      (some (h20, none))
    else am_r0 (am_g d 11 [vr 1 a0, vi x2, vi x3] h20) fun h22 =>
    some (h22, none))
  else some (h, none) := (am_g_run (tb := cK_perform) rfl rfl (Nat.le_of_ble_eq_true rfl) rfl).trans (qK_perform_0 (am_g d) 999999 a0 x1 x2 x3 h)
def rK_canGo (d n i : Nat) (ls : am_L) (h : am_H) : am_Z := am_run 0 (fun _ => 0) cK_canGo (am_g d) n i ls h
theorem gK_canGo (d : Nat) (a0 : Nat) (x1 : Int32) (x2 : Int32) (h : am_H) : am_g (d + 1) 4 [vr 1 a0, vi x1, vi x2] h =
  am_b 4 x1 fun j1 =>
  am_r1 (am_g d 29 [vr 2 (Int32.toNatClampNeg (h a0 0)), vi x2, vi (h (a0 + 1) j1)] h) fun h2 v3 =>
  if v3 &&& 1 = v3 then some (h2, some v3) else none := (am_g_run (tb := cK_canGo) rfl rfl (Nat.le_of_ble_eq_true rfl) rfl).trans (qK_canGo_0 (am_g d) 999999 a0 x1 x2 h)
def rK_canTake (d n i : Nat) (ls : am_L) (h : am_H) : am_Z := am_run 0 (fun _ => 0) cK_canTake (am_g d) n i ls h
theorem gK_canTake (d : Nat) (a0 : Nat) (x1 : Int32) (x2 : Int32) (h : am_H) : am_g (d + 1) 5 [vr 1 a0, vi x1, vi x2] h =
  am_b 5 x2 fun j1 =>
  am_b 4 x1 fun j2 =>
  if (h (a0 + 5) j1) = (h (a0 + 1) j2) then
    (am_b 5 x2 fun j3 =>
    am_b 4 x1 fun j4 =>
    if (h (a0 + 2) j4) < (h (a0 + 7) j3) then
      (some (h, some 0))
    else some (h, some 1))
  else some (h, some 0) := (am_g_run (tb := cK_canTake) rfl rfl (Nat.le_of_ble_eq_true rfl) rfl).trans (qK_canTake_0 (am_g d) 999999 a0 x1 x2 h)
def rK_canPut (d n i : Nat) (ls : am_L) (h : am_H) : am_Z := am_run 0 (fun _ => 0) cK_canPut (am_g d) n i ls h
theorem gK_canPut (d : Nat) (a0 : Nat) (x1 : Int32) (x2 : Int32) (h : am_H) : am_g (d + 1) 6 [vr 1 a0, vi x1, vi x2] h =
  am_b 5 x2 fun j1 =>
  if (h (a0 + 6) j1) = x1 then
    (some (h, some 1))
  else some (h, some 0) := (am_g_run (tb := cK_canPut) rfl rfl (Nat.le_of_ble_eq_true rfl) rfl).trans (qK_canPut_0 (am_g d) 999999 a0 x1 x2 h)
def rK_pass (d n i : Nat) (ls : am_L) (h : am_H) : am_Z := am_run 0 (fun _ => 0) cK_pass (am_g d) n i ls h
theorem gK_pass (d : Nat) (a0 : Nat) (x1 : Int32) (x2 : Int32) (h : am_H) : am_g (d + 1) 7 [vr 1 a0, vi x1, vi x2] h =
  am_b 4 x1 fun j1 =>
  am_b 4 x1 fun j2 =>
  am_r1 (am_g d 12 [vr 1 a0, vi (h (a0 + 1) j2)] h) fun h3 v4 =>
  am_b 4 x1 fun j5 =>
  am_b 4 x1 fun j6 =>
  am_b 4 x1 fun j7 =>
  am_b 4 x1 fun j8 =>
  am_b 4 x1 fun j9 =>
  am_b 44 ((am_up (am_up h3 (a0 + 2) j5 ((h (a0 + 2) j1) + (x2 * v4))) (a0 + 3) j7 (((am_up h3 (a0 + 2) j5 ((h (a0 + 2) j1) + (x2 * v4))) (a0 + 3) j6) + x2)) (a0 + 4) j8) fun j10 =>
  rK_pass d 999999 37 [some (vr 1 a0), some (vi x1), some (vi x2), some (vi 0)] (am_up (am_up (am_up h3 (a0 + 2) j5 ((h (a0 + 2) j1) + (x2 * v4))) (a0 + 3) j7 (((am_up h3 (a0 + 2) j5 ((h (a0 + 2) j1) + (x2 * v4))) (a0 + 3) j6) + x2)) (a0 + 12) j10 ((am_up (am_up h3 (a0 + 2) j5 ((h (a0 + 2) j1) + (x2 * v4))) (a0 + 3) j7 (((am_up h3 (a0 + 2) j5 ((h (a0 + 2) j1) + (x2 * v4))) (a0 + 3) j6) + x2)) (a0 + 2) j9)) := (am_g_run (tb := cK_pass) rfl rfl (Nat.le_of_ble_eq_true rfl) rfl).trans (qK_pass_0 (am_g d) 999999 a0 x1 x2 h)
theorem tK_pass_37 (d n : Nat) (a0 : Nat) (x1 : Int32) (x2 : Int32) (x3 : Int32) (h : am_H) : rK_pass d (n + 1) 37 [some (vr 1 a0), some (vi x1), some (vi x2), some (vi x3)] h =
  if x3 < (h (Int32.toNatClampNeg (h a0 0)) 17) then
    (am_b 5 x3 fun j1 =>
    if (h (a0 + 6) j1) = x1 then
      (am_b 5 x3 fun j2 =>
      am_b 5 x3 fun j3 =>
      rK_pass d n 37 [some (vr 1 a0), some (vi x1), some (vi x2), some (vi (x3 + 1))] (am_up h (a0 + 8) j3 ((h (a0 + 8) j2) + (x2 * 144))))
    else rK_pass d n 37 [some (vr 1 a0), some (vi x1), some (vi x2), some (vi (x3 + 1))] h)
  else some (h, none) := qK_pass_37 (am_g d) n a0 x1 x2 x3 h
def rK_cross (d n i : Nat) (ls : am_L) (h : am_H) : am_Z := am_run 0 (fun _ => 0) cK_cross (am_g d) n i ls h
theorem gK_cross (d : Nat) (a0 : Nat) (x1 : Int32) (x2 : Int32) (h : am_H) : am_g (d + 1) 8 [vr 1 a0, vi x1, vi x2] h =
  am_r0 (am_g d 7 [vr 1 a0, vi x1, vi (h (Int32.toNatClampNeg (h a0 0)) 18)] h) fun h1 =>
  am_b 4 x1 fun j2 =>
  am_b 4 x1 fun j3 =>
  am_r1 (am_g d 31 [vr 2 (Int32.toNatClampNeg (h1 a0 0)), vi x2, vi (h1 (a0 + 1) j3)] h1) fun h4 v5 =>
  am_b 4 x1 fun j6 =>
  am_b 4 x1 fun j7 =>
  am_r1 (am_g d 30 [vr 2 (Int32.toNatClampNeg ((am_up h4 (a0 + 2) j6 ((h1 (a0 + 2) j2) + v5)) a0 0)), vi x2, vi ((am_up h4 (a0 + 2) j6 ((h1 (a0 + 2) j2) + v5)) (a0 + 1) j7)] (am_up h4 (a0 + 2) j6 ((h1 (a0 + 2) j2) + v5))) fun h8 v9 =>
  am_r0 (am_g d 9 [vr 1 a0, vi x1, vi v9] h8) fun h10 =>
  some (h10, none) := (am_g_run (tb := cK_cross) rfl rfl (Nat.le_of_ble_eq_true rfl) rfl).trans (qK_cross_0 (am_g d) 999999 a0 x1 x2 h)
def rK_enter (d n i : Nat) (ls : am_L) (h : am_H) : am_Z := am_run 0 (fun _ => 0) cK_enter (am_g d) n i ls h
theorem gK_enter (d : Nat) (a0 : Nat) (x1 : Int32) (x2 : Int32) (h : am_H) : am_g (d + 1) 9 [vr 1 a0, vi x1, vi x2] h =
  am_b 4 x1 fun j1 =>
  if ((am_up h (a0 + 1) j1 x2) a0 14) < 44 then
    (am_b 44 ((am_up h (a0 + 1) j1 x2) a0 14) fun j2 =>
    am_b 44 ((am_up (am_up h (a0 + 1) j1 x2) (a0 + 9) j2 x1) a0 14) fun j3 =>
    am_b 4 x1 fun j4 =>
    am_b 44 ((am_up (am_up (am_up h (a0 + 1) j1 x2) (a0 + 9) j2 x1) (a0 + 10) j3 x2) a0 14) fun j5 =>
    am_b 4 x1 fun j6 =>
    am_b 44 ((am_up (am_up (am_up (am_up h (a0 + 1) j1 x2) (a0 + 9) j2 x1) (a0 + 10) j3 x2) (a0 + 11) j5 ((am_up (am_up (am_up h (a0 + 1) j1 x2) (a0 + 9) j2 x1) (a0 + 10) j3 x2) (a0 + 2) j4)) a0 14) fun j7 =>
    am_b 4 x1 fun j8 =>
    some (am_up (am_up (am_up (am_up (am_up (am_up (am_up h (a0 + 1) j1 x2) (a0 + 9) j2 x1) (a0 + 10) j3 x2) (a0 + 11) j5 ((am_up (am_up (am_up h (a0 + 1) j1 x2) (a0 + 9) j2 x1) (a0 + 10) j3 x2) (a0 + 2) j4)) (a0 + 12) j7 ((am_up (am_up (am_up (am_up h (a0 + 1) j1 x2) (a0 + 9) j2 x1) (a0 + 10) j3 x2) (a0 + 11) j5 ((am_up (am_up (am_up h (a0 + 1) j1 x2) (a0 + 9) j2 x1) (a0 + 10) j3 x2) (a0 + 2) j4)) (a0 + 2) j6)) (a0 + 4) j8 ((am_up (am_up (am_up (am_up (am_up h (a0 + 1) j1 x2) (a0 + 9) j2 x1) (a0 + 10) j3 x2) (a0 + 11) j5 ((am_up (am_up (am_up h (a0 + 1) j1 x2) (a0 + 9) j2 x1) (a0 + 10) j3 x2) (a0 + 2) j4)) (a0 + 12) j7 ((am_up (am_up (am_up (am_up h (a0 + 1) j1 x2) (a0 + 9) j2 x1) (a0 + 10) j3 x2) (a0 + 11) j5 ((am_up (am_up (am_up h (a0 + 1) j1 x2) (a0 + 9) j2 x1) (a0 + 10) j3 x2) (a0 + 2) j4)) (a0 + 2) j6)) a0 14)) a0 14 (((am_up (am_up (am_up (am_up (am_up (am_up h (a0 + 1) j1 x2) (a0 + 9) j2 x1) (a0 + 10) j3 x2) (a0 + 11) j5 ((am_up (am_up (am_up h (a0 + 1) j1 x2) (a0 + 9) j2 x1) (a0 + 10) j3 x2) (a0 + 2) j4)) (a0 + 12) j7 ((am_up (am_up (am_up (am_up h (a0 + 1) j1 x2) (a0 + 9) j2 x1) (a0 + 10) j3 x2) (a0 + 11) j5 ((am_up (am_up (am_up h (a0 + 1) j1 x2) (a0 + 9) j2 x1) (a0 + 10) j3 x2) (a0 + 2) j4)) (a0 + 2) j6)) (a0 + 4) j8 ((am_up (am_up (am_up (am_up (am_up h (a0 + 1) j1 x2) (a0 + 9) j2 x1) (a0 + 10) j3 x2) (a0 + 11) j5 ((am_up (am_up (am_up h (a0 + 1) j1 x2) (a0 + 9) j2 x1) (a0 + 10) j3 x2) (a0 + 2) j4)) (a0 + 12) j7 ((am_up (am_up (am_up (am_up h (a0 + 1) j1 x2) (a0 + 9) j2 x1) (a0 + 10) j3 x2) (a0 + 11) j5 ((am_up (am_up (am_up h (a0 + 1) j1 x2) (a0 + 9) j2 x1) (a0 + 10) j3 x2) (a0 + 2) j4)) (a0 + 2) j6)) a0 14)) a0 14) + 1), none))
  else some (am_up h (a0 + 1) j1 x2, none) := (am_g_run (tb := cK_enter) rfl rfl (Nat.le_of_ble_eq_true rfl) rfl).trans (qK_enter_0 (am_g d) 999999 a0 x1 x2 h)
def rK_pick (d n i : Nat) (ls : am_L) (h : am_H) : am_Z := am_run 0 (fun _ => 0) cK_pick (am_g d) n i ls h
theorem gK_pick (d : Nat) (a0 : Nat) (x1 : Int32) (x2 : Int32) (h : am_H) : am_g (d + 1) 10 [vr 1 a0, vi x1, vi x2] h =
  am_b 4 x1 fun j1 =>
  am_r1 (am_g d 14 [vr 1 a0, vi x2, vi (h (a0 + 2) j1)] h) fun h2 v3 =>
  am_b 5 x2 fun j4 =>
  am_b 5 x2 fun j5 =>
  am_b 5 x2 fun j6 =>
  some (am_up (am_up (am_up h2 (a0 + 8) j4 v3) (a0 + 5) j5 (-4)) (a0 + 6) j6 x1, none) := (am_g_run (tb := cK_pick) rfl rfl (Nat.le_of_ble_eq_true rfl) rfl).trans (qK_pick_0 (am_g d) 999999 a0 x1 x2 h)
def rK_drop (d n i : Nat) (ls : am_L) (h : am_H) : am_Z := am_run 0 (fun _ => 0) cK_drop (am_g d) n i ls h
theorem gK_drop (d : Nat) (a0 : Nat) (x1 : Int32) (x2 : Int32) (h : am_H) : am_g (d + 1) 11 [vr 1 a0, vi x1, vi x2] h =
  am_b 4 x1 fun j1 =>
  am_b 5 x2 fun j2 =>
  am_b 5 x2 fun j3 =>
  am_b 4 x1 fun j4 =>
  am_b 5 x2 fun j5 =>
  some (am_up (am_up (am_up h (a0 + 5) j2 (h (a0 + 1) j1)) (a0 + 6) j3 (-4)) (a0 + 7) j5 ((am_up (am_up h (a0 + 5) j2 (h (a0 + 1) j1)) (a0 + 6) j3 (-4)) (a0 + 2) j4), none) := (am_g_run (tb := cK_drop) rfl rfl (Nat.le_of_ble_eq_true rfl) rfl).trans (qK_drop_0 (am_g d) 999999 a0 x1 x2 h)
def rK_hourTicksOf (d n i : Nat) (ls : am_L) (h : am_H) : am_Z := am_run 0 (fun _ => 0) cK_hourTicksOf (am_g d) n i ls h
theorem gK_hourTicksOf (d : Nat) (a0 : Nat) (x1 : Int32) (h : am_H) : am_g (d + 1) 12 [vr 1 a0, vi x1] h =
  if x1 = (h a0 1) then
    (some (h, some 12))
  else am_b 6 x1 fun j1 =>
  some (h, some (h ((Int32.toNatClampNeg (h a0 0)) + 4) j1)) := (am_g_run (tb := cK_hourTicksOf) rfl rfl (Nat.le_of_ble_eq_true rfl) rfl).trans (qK_hourTicksOf_0 (am_g d) 999999 a0 x1 h)
def rK_partsOfTickIn (d n i : Nat) (ls : am_L) (h : am_H) : am_Z := am_run 0 (fun _ => 0) cK_partsOfTickIn (am_g d) n i ls h
theorem gK_partsOfTickIn (d : Nat) (a0 : Nat) (x1 : Int32) (h : am_H) : am_g (d + 1) 13 [vr 1 a0, vi x1] h =
  if x1 = (h a0 1) then
    (some (h, some 12))
  else am_b 6 x1 fun j1 =>
  some (h, some (h ((Int32.toNatClampNeg (h a0 0)) + 5) j1)) := (am_g_run (tb := cK_partsOfTickIn) rfl rfl (Nat.le_of_ble_eq_true rfl) rfl).trans (qK_partsOfTickIn_0 (am_g d) 999999 a0 x1 h)
def rK_wornAt (d n i : Nat) (ls : am_L) (h : am_H) : am_Z := am_run 0 (fun _ => 0) cK_wornAt (am_g d) n i ls h
theorem gK_wornAt (d : Nat) (a0 : Nat) (x1 : Int32) (x2 : Int32) (h : am_H) : am_g (d + 1) 14 [vr 1 a0, vi x1, vi x2] h =
  am_b 5 x1 fun j1 =>
  if (h (a0 + 5) j1) = (-4) then
    (am_b 5 x1 fun j2 =>
    some (h, some (h (a0 + 8) j2)))
  else am_b 5 x1 fun j3 =>
  am_b 5 x1 fun j4 =>
  am_b 5 x1 fun j5 =>
  am_r1 (am_g d 13 [vr 1 a0, vi (h (a0 + 5) j5)] h) fun h6 v7 =>
  some (h6, some ((h (a0 + 8) j3) + ((x2 - (h (a0 + 7) j4)) * v7))) := (am_g_run (tb := cK_wornAt) rfl rfl (Nat.le_of_ble_eq_true rfl) rfl).trans (qK_wornAt_0 (am_g d) 999999 a0 x1 x2 h)
def rK_thingsOf (d n i : Nat) (ls : am_L) (h : am_H) : am_Z := am_run 0 (fun _ => 0) cK_thingsOf (am_g d) n i ls h
theorem gK_thingsOf (d : Nat) (a0 : Nat) (x1 : Int32) (h : am_H) : am_g (d + 1) 15 [vr 1 a0, vi x1] h =
  rK_thingsOf d 999999 5 [some (vr 1 a0), some (vi x1), some (vi 0), some (vi 0)] h := (am_g_run (tb := cK_thingsOf) rfl rfl (Nat.le_of_ble_eq_true rfl) rfl).trans (qK_thingsOf_0 (am_g d) 999999 a0 x1 h)
theorem tK_thingsOf_5 (d n : Nat) (a0 : Nat) (x1 : Int32) (x2 : Int32) (x3 : Int32) (h : am_H) : rK_thingsOf d (n + 1) 5 [some (vr 1 a0), some (vi x1), some (vi x2), some (vi x3)] h =
  if x3 < (h (Int32.toNatClampNeg (h a0 0)) 17) then
    (am_b 5 x3 fun j1 =>
    if (h (a0 + 6) j1) = x1 then
      (rK_thingsOf d n 5 [some (vr 1 a0), some (vi x1), some (vi (x2 ||| ((1 : Int32) <<< (x3 &&& 31)))), some (vi (x3 + 1))] h)
    else rK_thingsOf d n 5 [some (vr 1 a0), some (vi x1), some (vi x2), some (vi (x3 + 1))] h)
  else some (h, some x2) := qK_thingsOf_5 (am_g d) n a0 x1 x2 x3 h
def rK_visitsOf (d n i : Nat) (ls : am_L) (h : am_H) : am_Z := am_run 0 (fun _ => 0) cK_visitsOf (am_g d) n i ls h
theorem gK_visitsOf (d : Nat) (a0 : Nat) (x1 : Int32) (h : am_H) : am_g (d + 1) 16 [vr 1 a0, vi x1] h =
  rK_visitsOf d 999999 5 [some (vr 1 a0), some (vi x1), some (vi 0), some (vi 0)] h := (am_g_run (tb := cK_visitsOf) rfl rfl (Nat.le_of_ble_eq_true rfl) rfl).trans (qK_visitsOf_0 (am_g d) 999999 a0 x1 h)
theorem tK_visitsOf_5 (d n : Nat) (a0 : Nat) (x1 : Int32) (x2 : Int32) (x3 : Int32) (h : am_H) : rK_visitsOf d (n + 1) 5 [some (vr 1 a0), some (vi x1), some (vi x2), some (vi x3)] h =
  if x3 < (h a0 14) then
    (am_b 44 x3 fun j1 =>
    if (h (a0 + 9) j1) = x1 then
      (rK_visitsOf d n 5 [some (vr 1 a0), some (vi x1), some (vi (x2 + 1)), some (vi (x3 + 1))] h)
    else rK_visitsOf d n 5 [some (vr 1 a0), some (vi x1), some (vi x2), some (vi (x3 + 1))] h)
  else some (h, some x2) := qK_visitsOf_5 (am_g d) n a0 x1 x2 x3 h
def rK_firstShared (d n i : Nat) (ls : am_L) (h : am_H) : am_Z := am_run 0 (fun _ => 0) cK_firstShared (am_g d) n i ls h
theorem gK_firstShared (d : Nat) (a0 : Nat) (x1 : Int32) (x2 : Int32) (h : am_H) : am_g (d + 1) 17 [vr 1 a0, vi x1, vi x2] h =
  am_b 44 x1 fun j1 =>
  am_b 44 x2 fun j2 =>
  am_r1 (am_g d 166 [vi (h (a0 + 11) j1), vi (h (a0 + 11) j2)] h) fun h3 v4 =>
  am_b 44 x1 fun j5 =>
  am_b 44 x2 fun j6 =>
  if (h3 (a0 + 10) j5) = (h3 (a0 + 10) j6) then
    (am_b 44 x1 fun j7 =>
    am_b 44 x2 fun j8 =>
    am_r1 (am_g d 167 [vi (h3 (a0 + 12) j7), vi (h3 (a0 + 12) j8)] h3) fun h9 v10 =>
    if v10 < v4 then
      (some (h9, some 536870912))
    else some (h9, some v4))
  else some (h3, some 536870912) := (am_g_run (tb := cK_firstShared) rfl rfl (Nat.le_of_ble_eq_true rfl) rfl).trans (qK_firstShared_0 (am_g d) 999999 a0 x1 x2 h)
def rH_readText (d n i : Nat) (ls : am_L) (h : am_H) : am_Z := am_run 0 (fun _ => 0) cH_readText (am_g d) n i ls h
theorem gH_readText (d : Nat) (a0 : Nat) (x2 : Int32) (h : am_H) : am_g (d + 1) 18 [vr 2 a0, vr 9 1, vi x2] h =
  rH_readText d 999999 20 [some (vr 2 a0), some (vr 9 1), some (vi x2), some (vi 0), some (vi 0), none] (am_up (am_up (am_up (am_up (am_up h a0 14 0) a0 15 0) a0 16 0) a0 17 0) a0 18 1) := (am_g_run (tb := cH_readText) rfl rfl (Nat.le_of_ble_eq_true rfl) rfl).trans (qH_readText_0 (am_g d) 999999 a0 x2 h)
theorem tH_readText_20 (d n : Nat) (a0 : Nat) (x2 : Int32) (x3 : Int32) (x4 : Int32) (u5 : Option am_V) (h : am_H) : rH_readText d (n + 1) 20 [some (vr 2 a0), some (vr 9 1), some (vi x2), some (vi x3), some (vi x4), u5] h =
  if x4 < x2 then
    (if x3 < x2 then
      (am_r1 (am_g d 19 [vr 2 a0, vr 9 1, vi x2, vi x3] h) fun h1 v2 =>
      if v2 = (-4) then
        (some (h1, some x3))
      else rH_readText d n 20 [some (vr 2 a0), some (vr 9 1), some (vi x2), some (vi v2), some (vi (x4 + 1)), some (vi v2)] h1)
    else some (h, some (-4)))
  else some (h, some (-4)) := qH_readText_20 (am_g d) n a0 x2 x3 x4 u5 h
def rH_readItem (d n i : Nat) (ls : am_L) (h : am_H) : am_Z := am_run 0 (fun _ => 0) cH_readItem (am_g d) n i ls h
theorem gH_readItem (d : Nat) (a0 : Nat) (x2 : Int32) (x3 : Int32) (h : am_H) : am_g (d + 1) 19 [vr 2 a0, vr 9 1, vi x2, vi x3] h =
  am_b 200 x3 fun j1 =>
  am_r1 (am_g d 20 [vi (h 1 j1)] h) fun h2 v3 =>
  rH_readItem d 999999 14 [some (vr 2 a0), some (vr 9 1), some (vi x2), some (vi x3), some (vi (h 1 j1)), some (vi v3), some (vi (x3 + 1)), some (vi 0), none] h2 := (am_g_run (tb := cH_readItem) rfl rfl (Nat.le_of_ble_eq_true rfl) rfl).trans (qH_readItem_0 (am_g d) 999999 a0 x2 x3 h)
theorem tH_readItem_14 (d n : Nat) (a0 : Nat) (x2 : Int32) (x3 : Int32) (x4 : Int32) (x5 : Int32) (x6 : Int32) (x7 : Int32) (u8 : Option am_V) (h : am_H) : rH_readItem d (n + 1) 14 [some (vr 2 a0), some (vr 9 1), some (vi x2), some (vi x3), some (vi x4), some (vi x5), some (vi x6), some (vi x7), u8] h =
  if x7 < x5 then
    (am_r1 (am_g d 21 [vr 9 1, vi x2, vi x6] h) fun h1 v2 =>
    if v2 = 0 then
      (some (h1, some (-4)))
    else am_r1 (am_g d 22 [vr 9 1, vi x6, vi v2] h1) fun h3 v4 =>
    am_b 4 x7 fun j5 =>
    if (x6 + v2) < x2 then
      (am_b 200 (x6 + v2) fun j6 =>
      if (x7 + 1) < x5 then
        (if ((am_up h3 (a0 + 14) j5 v4) 1 j6) = 44 then
          (rH_readItem d n 14 [some (vr 2 a0), some (vr 9 1), some (vi x2), some (vi x3), some (vi x4), some (vi x5), some (vi ((x6 + v2) + 1)), some (vi (x7 + 1)), some (vi v2)] (am_up h3 (a0 + 14) j5 v4))
        else some (am_up h3 (a0 + 14) j5 v4, some (-4)))
      else if ((am_up h3 (a0 + 14) j5 v4) 1 j6) = 59 then
        (rH_readItem d n 14 [some (vr 2 a0), some (vr 9 1), some (vi x2), some (vi x3), some (vi x4), some (vi x5), some (vi ((x6 + v2) + 1)), some (vi (x7 + 1)), some (vi v2)] (am_up h3 (a0 + 14) j5 v4))
      else some (am_up h3 (a0 + 14) j5 v4, some (-4)))
    else some (am_up h3 (a0 + 14) j5 v4, some (-4)))
  else am_r1 (am_g d 23 [vr 2 a0, vi x4] h) fun h7 v8 =>
  if v8 = 0 then
    (some (h7, some (-4)))
  else some (h7, some x6) := qH_readItem_14 (am_g d) n a0 x2 x3 x4 x5 x6 x7 u8 h
def rH_numbersOf (d n i : Nat) (ls : am_L) (h : am_H) : am_Z := am_run 0 (fun _ => 0) cH_numbersOf (am_g d) n i ls h
theorem gH_numbersOf (d : Nat) (x0 : Int32) (h : am_H) : am_g (d + 1) 20 [vi x0] h =
  if x0 = nI 100 then
    (some (h, some 4))
  else if x0 = nI 112 then
    (some (h, some 2))
  else if x0 = nI 114 then
    (some (h, some 3))
  else if x0 = nI 116 then
    (some (h, some 3))
  else if x0 = nI 119 then
    (some (h, some 1))
  else some (h, some 0) := (am_g_run (tb := cH_numbersOf) rfl rfl (Nat.le_of_ble_eq_true rfl) rfl).trans (qH_numbersOf_0 (am_g d) 999999 x0 h)
def rH_figuresAt (d n i : Nat) (ls : am_L) (h : am_H) : am_Z := am_run 0 (fun _ => 0) cH_figuresAt (am_g d) n i ls h
theorem gH_figuresAt (d : Nat) (x1 : Int32) (x2 : Int32) (h : am_H) : am_g (d + 1) 21 [vr 9 1, vi x1, vi x2] h =
  rH_figuresAt d 999999 5 [some (vr 9 1), some (vi x1), some (vi x2), some (vi 0), some (vi x2)] h := (am_g_run (tb := cH_figuresAt) rfl rfl (Nat.le_of_ble_eq_true rfl) rfl).trans (qH_figuresAt_0 (am_g d) 999999 x1 x2 h)
theorem tH_figuresAt_5 (d n : Nat) (x1 : Int32) (x2 : Int32) (x3 : Int32) (x4 : Int32) (h : am_H) : rH_figuresAt d (n + 1) 5 [some (vr 9 1), some (vi x1), some (vi x2), some (vi x3), some (vi x4)] h =
  if x4 < x1 then
    (if x3 < 2 then
      (am_b 200 x4 fun j1 =>
      if (h 1 j1) < 48 then
        (some (h, some x3))
      else am_b 200 x4 fun j2 =>
      if 57 < (h 1 j2) then
        (some (h, some x3))
      else rH_figuresAt d n 5 [some (vr 9 1), some (vi x1), some (vi x2), some (vi (x3 + 1)), some (vi (x4 + 1))] h)
    else some (h, some x3))
  else some (h, some x3) := qH_figuresAt_5 (am_g d) n x1 x2 x3 x4 h
def rH_numberAt (d n i : Nat) (ls : am_L) (h : am_H) : am_Z := am_run 0 (fun _ => 0) cH_numberAt (am_g d) n i ls h
theorem gH_numberAt (d : Nat) (x1 : Int32) (x2 : Int32) (h : am_H) : am_g (d + 1) 22 [vr 9 1, vi x1, vi x2] h =
  rH_numberAt d 999999 5 [some (vr 9 1), some (vi x1), some (vi x2), some (vi 0), some (vi 0)] h := (am_g_run (tb := cH_numberAt) rfl rfl (Nat.le_of_ble_eq_true rfl) rfl).trans (qH_numberAt_0 (am_g d) 999999 x1 x2 h)
theorem tH_numberAt_5 (d n : Nat) (x1 : Int32) (x2 : Int32) (x3 : Int32) (x4 : Int32) (h : am_H) : rH_numberAt d (n + 1) 5 [some (vr 9 1), some (vi x1), some (vi x2), some (vi x3), some (vi x4)] h =
  if x4 < x2 then
    (am_b 200 (x1 + x4) fun j1 =>
    rH_numberAt d n 5 [some (vr 9 1), some (vi x1), some (vi x2), some (vi ((10 * x3) + ((h 1 j1) - 48))), some (vi (x4 + 1))] h)
  else some (h, some x3) := qH_numberAt_5 (am_g d) n x1 x2 x3 x4 h
def rH_addItem (d n i : Nat) (ls : am_L) (h : am_H) : am_Z := am_run 0 (fun _ => 0) cH_addItem (am_g d) n i ls h
theorem gH_addItem (d : Nat) (a0 : Nat) (x1 : Int32) (h : am_H) : am_g (d + 1) 23 [vr 2 a0, vi x1] h =
  if x1 = nI 100 then
    (am_r1 (am_g d 25 [vr 2 a0, vi (h (a0 + 14) 0), vi (h (a0 + 14) 1), vi (h (a0 + 14) 2), vi (h (a0 + 14) 3)] h) fun h1 v2 =>
    if v2 &&& 1 = v2 then some (h1, some v2) else none)
  else if x1 = nI 112 then
    (am_r1 (am_g d 26 [vr 2 a0, vi (h (a0 + 14) 0), vi (h (a0 + 14) 1)] h) fun h3 v4 =>
    if v4 &&& 1 = v4 then some (h3, some v4) else none)
  else if x1 = nI 114 then
    (am_r1 (am_g d 24 [vr 2 a0, vi (h (a0 + 14) 0), vi (h (a0 + 14) 1), vi (h (a0 + 14) 2)] h) fun h5 v6 =>
    if v6 &&& 1 = v6 then some (h5, some v6) else none)
  else if x1 = nI 116 then
    (am_r1 (am_g d 27 [vr 2 a0, vi (h (a0 + 14) 0), vi (h (a0 + 14) 1), vi (h (a0 + 14) 2)] h) fun h7 v8 =>
    if v8 &&& 1 = v8 then some (h7, some v8) else none)
  else if x1 = nI 119 then
    (am_r1 (am_g d 28 [vr 2 a0, vi (h (a0 + 14) 0)] h) fun h9 v10 =>
    if v10 &&& 1 = v10 then some (h9, some v10) else none)
  else some (h, some 0) := (am_g_run (tb := cH_addItem) rfl rfl (Nat.le_of_ble_eq_true rfl) rfl).trans (qH_addItem_0 (am_g d) 999999 a0 x1 h)
def rH_addRoom (d n i : Nat) (ls : am_L) (h : am_H) : am_Z := am_run 0 (fun _ => 0) cH_addRoom (am_g d) n i ls h
theorem gH_addRoom (d : Nat) (a0 : Nat) (x1 : Int32) (x2 : Int32) (x3 : Int32) (h : am_H) : am_g (d + 1) 24 [vr 2 a0, vi x1, vi x2, vi x3] h =
  if (h a0 14) < 6 then
    (if x1 < 1 then
      (some (h, some 0))
    else if 4 < x1 then
      (some (h, some 0))
    else if x2 < 1 then
      (some (h, some 0))
    else if 4 < x2 then
      (some (h, some 0))
    else if x3 < 24 then
      (am_b 6 (h a0 14) fun j1 =>
      am_b 6 ((am_up h (a0 + 1) j1 x1) a0 14) fun j2 =>
      am_b 6 ((am_up (am_up h (a0 + 1) j1 x1) (a0 + 2) j2 x2) a0 14) fun j3 =>
      if x1 = 0 then none else
      am_b 6 ((am_up (am_up (am_up h (a0 + 1) j1 x1) (a0 + 2) j2 x2) (a0 + 3) j3 x3) a0 14) fun j4 =>
      if x2 = 0 then none else
      am_b 6 ((am_up (am_up (am_up (am_up h (a0 + 1) j1 x1) (a0 + 2) j2 x2) (a0 + 3) j3 x3) (a0 + 4) j4 ((12 * x2) / x1)) a0 14) fun j5 =>
      some (am_up (am_up (am_up (am_up (am_up (am_up h (a0 + 1) j1 x1) (a0 + 2) j2 x2) (a0 + 3) j3 x3) (a0 + 4) j4 ((12 * x2) / x1)) (a0 + 5) j5 ((12 * x1) / x2)) a0 14 (((am_up (am_up (am_up (am_up (am_up h (a0 + 1) j1 x1) (a0 + 2) j2 x2) (a0 + 3) j3 x3) (a0 + 4) j4 ((12 * x2) / x1)) (a0 + 5) j5 ((12 * x1) / x2)) a0 14) + 1), some 1))
    else some (h, some 0))
  else some (h, some 0) := (am_g_run (tb := cH_addRoom) rfl rfl (Nat.le_of_ble_eq_true rfl) rfl).trans (qH_addRoom_0 (am_g d) 999999 a0 x1 x2 x3 h)
def rH_addDoor (d n i : Nat) (ls : am_L) (h : am_H) : am_Z := am_run 0 (fun _ => 0) cH_addDoor (am_g d) n i ls h
theorem gH_addDoor (d : Nat) (a0 : Nat) (x1 : Int32) (x2 : Int32) (x3 : Int32) (x4 : Int32) (h : am_H) : am_g (d + 1) 25 [vr 2 a0, vi x1, vi x2, vi x3, vi x4] h =
  if (h a0 15) < 8 then
    (if x1 < (h a0 14) then
      (if x2 < (h a0 14) then
        (if x1 = x2 then
          (some (h, some 0))
        else if 1 < x3 then
          (some (h, some 0))
        else if 24 < x4 then
          (some (h, some 0))
        else am_b 8 (h a0 15) fun j1 =>
        am_b 8 ((am_up h (a0 + 6) j1 x1) a0 15) fun j2 =>
        if x3 = 0 then
          (am_b 8 ((am_up (am_up h (a0 + 6) j1 x1) (a0 + 7) j2 x2) a0 15) fun j3 =>
          some (am_up (am_up (am_up (am_up h (a0 + 6) j1 x1) (a0 + 7) j2 x2) (a0 + 8) j3 x4) a0 15 (((am_up (am_up (am_up h (a0 + 6) j1 x1) (a0 + 7) j2 x2) (a0 + 8) j3 x4) a0 15) + 1), some 1))
        else am_b 8 ((am_up (am_up h (a0 + 6) j1 x1) (a0 + 7) j2 x2) a0 15) fun j4 =>
        some (am_up (am_up (am_up (am_up h (a0 + 6) j1 x1) (a0 + 7) j2 x2) (a0 + 8) j4 (-x4)) a0 15 (((am_up (am_up (am_up h (a0 + 6) j1 x1) (a0 + 7) j2 x2) (a0 + 8) j4 (-x4)) a0 15) + 1), some 1))
      else some (h, some 0))
    else some (h, some 0))
  else some (h, some 0) := (am_g_run (tb := cH_addDoor) rfl rfl (Nat.le_of_ble_eq_true rfl) rfl).trans (qH_addDoor_0 (am_g d) 999999 a0 x1 x2 x3 x4 h)
def rH_addPerson (d n i : Nat) (ls : am_L) (h : am_H) : am_Z := am_run 0 (fun _ => 0) cH_addPerson (am_g d) n i ls h
theorem gH_addPerson (d : Nat) (a0 : Nat) (x1 : Int32) (x2 : Int32) (h : am_H) : am_g (d + 1) 26 [vr 2 a0, vi x1, vi x2] h =
  if (h a0 16) < 4 then
    (if x1 < (h a0 14) then
      (am_b 4 (h a0 16) fun j1 =>
      am_b 4 ((am_up h (a0 + 9) j1 x1) a0 16) fun j2 =>
      some (am_up (am_up (am_up h (a0 + 9) j1 x1) (a0 + 10) j2 x2) a0 16 (((am_up (am_up h (a0 + 9) j1 x1) (a0 + 10) j2 x2) a0 16) + 1), some 1))
    else some (h, some 0))
  else some (h, some 0) := (am_g_run (tb := cH_addPerson) rfl rfl (Nat.le_of_ble_eq_true rfl) rfl).trans (qH_addPerson_0 (am_g d) 999999 a0 x1 x2 h)
def rH_addThing (d n i : Nat) (ls : am_L) (h : am_H) : am_Z := am_run 0 (fun _ => 0) cH_addThing (am_g d) n i ls h
theorem gH_addThing (d : Nat) (a0 : Nat) (x1 : Int32) (x2 : Int32) (x3 : Int32) (h : am_H) : am_g (d + 1) 27 [vr 2 a0, vi x1, vi x2, vi x3] h =
  if (h a0 17) < 5 then
    (if x1 < (h a0 14) then
      (if 3 < x2 then
        (some (h, some 0))
      else if x3 < 1 then
        (some (h, some 0))
      else am_b 5 (h a0 17) fun j1 =>
      am_b 5 ((am_up h (a0 + 11) j1 x1) a0 17) fun j2 =>
      am_b 5 ((am_up (am_up h (a0 + 11) j1 x1) (a0 + 12) j2 x2) a0 17) fun j3 =>
      some (am_up (am_up (am_up (am_up h (a0 + 11) j1 x1) (a0 + 12) j2 x2) (a0 + 13) j3 x3) a0 17 (((am_up (am_up (am_up h (a0 + 11) j1 x1) (a0 + 12) j2 x2) (a0 + 13) j3 x3) a0 17) + 1), some 1))
    else some (h, some 0))
  else some (h, some 0) := (am_g_run (tb := cH_addThing) rfl rfl (Nat.le_of_ble_eq_true rfl) rfl).trans (qH_addThing_0 (am_g d) 999999 a0 x1 x2 x3 h)
def rH_setCrossing (d n i : Nat) (ls : am_L) (h : am_H) : am_Z := am_run 0 (fun _ => 0) cH_setCrossing (am_g d) n i ls h
theorem gH_setCrossing (d : Nat) (a0 : Nat) (x1 : Int32) (h : am_H) : am_g (d + 1) 28 [vr 2 a0, vi x1] h =
  if 3 < x1 then
    (some (h, some 0))
  else some (am_up h a0 18 x1, some 1) := (am_g_run (tb := cH_setCrossing) rfl rfl (Nat.le_of_ble_eq_true rfl) rfl).trans (qH_setCrossing_0 (am_g d) 999999 a0 x1 h)
def rH_isDoorOf (d n i : Nat) (ls : am_L) (h : am_H) : am_Z := am_run 0 (fun _ => 0) cH_isDoorOf (am_g d) n i ls h
theorem gH_isDoorOf (d : Nat) (a0 : Nat) (x1 : Int32) (x2 : Int32) (h : am_H) : am_g (d + 1) 29 [vr 2 a0, vi x1, vi x2] h =
  am_b 8 x1 fun j1 =>
  if (h (a0 + 6) j1) = x2 then
    (some (h, some 1))
  else am_b 8 x1 fun j2 =>
  if (h (a0 + 7) j2) = x2 then
    (some (h, some 1))
  else some (h, some 0) := (am_g_run (tb := cH_isDoorOf) rfl rfl (Nat.le_of_ble_eq_true rfl) rfl).trans (qH_isDoorOf_0 (am_g d) 999999 a0 x1 x2 h)
def rH_behind (d n i : Nat) (ls : am_L) (h : am_H) : am_Z := am_run 0 (fun _ => 0) cH_behind (am_g d) n i ls h
theorem gH_behind (d : Nat) (a0 : Nat) (x1 : Int32) (x2 : Int32) (h : am_H) : am_g (d + 1) 30 [vr 2 a0, vi x1, vi x2] h =
  am_b 8 x1 fun j1 =>
  if (h (a0 + 6) j1) = x2 then
    (am_b 8 x1 fun j2 =>
    some (h, some (h (a0 + 7) j2)))
  else am_b 8 x1 fun j3 =>
  some (h, some (h (a0 + 6) j3)) := (am_g_run (tb := cH_behind) rfl rfl (Nat.le_of_ble_eq_true rfl) rfl).trans (qH_behind_0 (am_g d) 999999 a0 x1 x2 h)
def rH_leadTicks (d n i : Nat) (ls : am_L) (h : am_H) : am_Z := am_run 0 (fun _ => 0) cH_leadTicks (am_g d) n i ls h
theorem gH_leadTicks (d : Nat) (a0 : Nat) (x1 : Int32) (x2 : Int32) (h : am_H) : am_g (d + 1) 31 [vr 2 a0, vi x1, vi x2] h =
  am_b 8 x1 fun j1 =>
  if (h (a0 + 6) j1) = x2 then
    (am_b 8 x1 fun j2 =>
    some (h, some ((h (a0 + 8) j2) * 12)))
  else am_b 8 x1 fun j3 =>
  some (h, some ((-(h (a0 + 8) j3)) * 12)) := (am_g_run (tb := cH_leadTicks) rfl rfl (Nat.le_of_ble_eq_true rfl) rfl).trans (qH_leadTicks_0 (am_g d) 999999 a0 x1 x2 h)
def rH_ticksThrough (d n i : Nat) (ls : am_L) (h : am_H) : am_Z := am_run 0 (fun _ => 0) cH_ticksThrough (am_g d) n i ls h
theorem gH_ticksThrough (d : Nat) (a0 : Nat) (x1 : Int32) (x2 : Int32) (h : am_H) : am_g (d + 1) 32 [vr 2 a0, vi x1, vi x2] h =
  am_b 6 x2 fun j1 =>
  am_r1 (am_g d 31 [vr 2 a0, vi x1, vi x2] h) fun h2 v3 =>
  some (h2, some (((h a0 18) * (h (a0 + 4) j1)) + v3)) := (am_g_run (tb := cH_ticksThrough) rfl rfl (Nat.le_of_ble_eq_true rfl) rfl).trans (qH_ticksThrough_0 (am_g d) 999999 a0 x1 x2 h)
def rH_worthOf (d n i : Nat) (ls : am_L) (h : am_H) : am_Z := am_run 0 (fun _ => 0) cH_worthOf (am_g d) n i ls h
theorem gH_worthOf (d : Nat) (a0 : Nat) (x1 : Int32) (x2 : Int32) (h : am_H) : am_g (d + 1) 33 [vr 2 a0, vi x1, vi x2] h =
  am_b 5 x1 fun j1 =>
  if (h (a0 + 12) j1) = nI 0 then
    (am_b 5 x1 fun j2 =>
    some (h, some (h (a0 + 13) j2)))
  else if (h (a0 + 12) j1) = nI 1 then
    (am_b 5 x1 fun j3 =>
    am_r1 (am_g d 166 [vi ((h (a0 + 13) j3) - (x2 / 144)), vi 0] h) fun h4 v5 =>
    some (h4, some v5))
  else if (h (a0 + 12) j1) = nI 2 then
    (am_b 5 x1 fun j6 =>
    if (x2 / 144) < (h (a0 + 13) j6) then
      (some (h, some 0))
    else some (h, some 1))
  else am_b 5 x1 fun j7 =>
  if (x2 / 144) < (h (a0 + 13) j7) then
    (some (h, some 1))
  else some (h, some 0) := (am_g_run (tb := cH_worthOf) rfl rfl (Nat.le_of_ble_eq_true rfl) rfl).trans (qH_worthOf_0 (am_g d) 999999 a0 x1 x2 h)
def rS_add (d n i : Nat) (ls : am_L) (h : am_H) : am_Z := am_run 0 (fun _ => 0) cS_add (am_g d) n i ls h
theorem gS_add (d : Nat) (x1 : Int32) (x2 : Int32) (x3 : Int32) (h : am_H) : am_g (d + 1) 34 [vr 3 70, vi x1, vi x2, vi x3] h =
  if (h 70 3) < 8 then
    (am_b 8 (h 70 3) fun j1 =>
    am_b 8 (h 70 3) fun j2 =>
    am_b 8 (h 70 3) fun j3 =>
    some (am_up (am_up (am_up (am_up h 71 j1 x1) 72 j2 x2) 73 j3 x3) 70 3 ((h 70 3) + 1), some 1))
  else some (h, some 0) := (am_g_run (tb := cS_add) rfl rfl (Nat.le_of_ble_eq_true rfl) rfl).trans (qS_add_0 (am_g d) 999999 x1 x2 x3 h)
def rS_pacesOf (d n i : Nat) (ls : am_L) (h : am_H) : am_Z := am_run 0 (fun _ => 0) cS_pacesOf (am_g d) n i ls h
theorem gS_pacesOf (d : Nat) (x1 : Int32) (h : am_H) : am_g (d + 1) 35 [vr 3 70, vi x1] h =
  rS_pacesOf d 999999 5 [some (vr 3 70), some (vi x1), some (vi 0), some (vi 0)] h := (am_g_run (tb := cS_pacesOf) rfl rfl (Nat.le_of_ble_eq_true rfl) rfl).trans (qS_pacesOf_0 (am_g d) 999999 x1 h)
theorem tS_pacesOf_5 (d n : Nat) (x1 : Int32) (x2 : Int32) (x3 : Int32) (h : am_H) : rS_pacesOf d (n + 1) 5 [some (vr 3 70), some (vi x1), some (vi x2), some (vi x3)] h =
  if x3 < 16 then
    (am_r1 (am_g d 36 [vr 3 70, vi x1, vi x3] h) fun h1 v2 =>
    if v2 = 0 then
      (rS_pacesOf d n 5 [some (vr 3 70), some (vi x1), some (vi x2), some (vi (x3 + 1))] h1)
    else rS_pacesOf d n 5 [some (vr 3 70), some (vi x1), some (vi (x2 ||| ((1 : Int32) <<< (x3 &&& 31)))), some (vi (x3 + 1))] h1)
  else some (h, some x2) := qS_pacesOf_5 (am_g d) n x1 x2 x3 h
def rS_isStillSo (d n i : Nat) (ls : am_L) (h : am_H) : am_Z := am_run 0 (fun _ => 0) cS_isStillSo (am_g d) n i ls h
theorem gS_isStillSo (d : Nat) (x1 : Int32) (x2 : Int32) (h : am_H) : am_g (d + 1) 36 [vr 3 70, vi x1, vi x2] h =
  rS_isStillSo d 999999 3 [some (vr 3 70), some (vi x1), some (vi x2), some (vi 0)] h := (am_g_run (tb := cS_isStillSo) rfl rfl (Nat.le_of_ble_eq_true rfl) rfl).trans (qS_isStillSo_0 (am_g d) 999999 x1 x2 h)
theorem tS_isStillSo_3 (d n : Nat) (x1 : Int32) (x2 : Int32) (x3 : Int32) (h : am_H) : rS_isStillSo d (n + 1) 3 [some (vr 3 70), some (vi x1), some (vi x2), some (vi x3)] h =
  if x3 < (h 70 3) then
    (am_b 8 x3 fun j1 =>
    if (h 71 j1) = x1 then
      (am_b 8 x3 fun j2 =>
      am_r1 (am_g d 38 [vi x2, vi (h 72 j2)] h) fun h3 v4 =>
      am_b 8 x3 fun j5 =>
      if v4 = (h3 73 j5) then
        (rS_isStillSo d n 3 [some (vr 3 70), some (vi x1), some (vi x2), some (vi (x3 + 1))] h3)
      else some (h3, some 0))
    else rS_isStillSo d n 3 [some (vr 3 70), some (vi x1), some (vi x2), some (vi (x3 + 1))] h)
  else some (h, some 1) := qS_isStillSo_3 (am_g d) n x1 x2 x3 h
def rS_mostAlike (d n i : Nat) (ls : am_L) (h : am_H) : am_Z := am_run 0 (fun _ => 0) cS_mostAlike (am_g d) n i ls h
theorem gS_mostAlike (d : Nat) (x1 : Int32) (x2 : Int32) (h : am_H) : am_g (d + 1) 37 [vr 3 70, vi x1, vi x2] h =
  rS_mostAlike d 999999 5 [some (vr 3 70), some (vi x1), some (vi x2), some (vi 0), some (vi 0), none, none, none] h := (am_g_run (tb := cS_mostAlike) rfl rfl (Nat.le_of_ble_eq_true rfl) rfl).trans (qS_mostAlike_0 (am_g d) 999999 x1 x2 h)
theorem tS_mostAlike_5 (d n : Nat) (x1 : Int32) (x2 : Int32) (x3 : Int32) (x4 : Int32) (u5 : Option am_V) (u6 : Option am_V) (u7 : Option am_V) (h : am_H) : rS_mostAlike d (n + 1) 5 [some (vr 3 70), some (vi x1), some (vi x2), some (vi x3), some (vi x4), u5, u6, u7] h =
  if x4 < 16 then
    (rS_mostAlike d n 13 [some (vr 3 70), some (vi x1), some (vi x2), some (vi x3), some (vi x4), some (vi 0), some (vi 0), u7] h)
  else some (h, some x3) := qS_mostAlike_5 (am_g d) n x1 x2 x3 x4 u5 u6 u7 h
theorem tS_mostAlike_13 (d n : Nat) (x1 : Int32) (x2 : Int32) (x3 : Int32) (x4 : Int32) (x5 : Int32) (x6 : Int32) (u7 : Option am_V) (h : am_H) : rS_mostAlike d (n + 1) 13 [some (vr 3 70), some (vi x1), some (vi x2), some (vi x3), some (vi x4), some (vi x5), some (vi x6), u7] h =
  if x6 < 16 then
    (if (((x1 >>> (x4 &&& 31)) &&& (x1 >>> (x6 &&& 31))) &&& 1) = 1 then
      (am_r1 (am_g d 38 [vi x4, vi x2] h) fun h1 v2 =>
      am_r1 (am_g d 38 [vi x6, vi x2] h1) fun h3 v4 =>
      if v2 = v4 then
        (rS_mostAlike d n 13 [some (vr 3 70), some (vi x1), some (vi x2), some (vi x3), some (vi x4), some (vi (x5 + 1)), some (vi (x6 + 1)), some (vi 1)] h3)
      else rS_mostAlike d n 13 [some (vr 3 70), some (vi x1), some (vi x2), some (vi x3), some (vi x4), some (vi x5), some (vi (x6 + 1)), some (vi 1)] h3)
    else rS_mostAlike d n 13 [some (vr 3 70), some (vi x1), some (vi x2), some (vi x3), some (vi x4), some (vi x5), some (vi (x6 + 1)), some (vi 0)] h)
  else am_r1 (am_g d 166 [vi x3, vi x5] h) fun h5 v6 =>
  rS_mostAlike d n 5 [some (vr 3 70), some (vi x1), some (vi x2), some (vi v6), some (vi (x4 + 1)), some (vi x5), some (vi x6), u7] h5 := qS_mostAlike_13 (am_g d) n x1 x2 x3 x4 x5 x6 u7 h
def rS_shownBy (d n i : Nat) (ls : am_L) (h : am_H) : am_Z := am_run 0 (fun _ => 0) cS_shownBy (am_g d) n i ls h
theorem gS_shownBy (d : Nat) (x0 : Int32) (x1 : Int32) (h : am_H) : am_g (d + 1) 38 [vi x0, vi x1] h =
  am_r1 (am_g d 166 [vi ((am_rem x0 4) + 1), vi 1] h) fun h1 v2 =>
  if v2 = 0 then none else
  some (h1, some ((x1 * ((x0 / 4) + 1)) / v2)) := (am_g_run (tb := cS_shownBy) rfl rfl (Nat.le_of_ble_eq_true rfl) rfl).trans (qS_shownBy_0 (am_g d) 999999 x0 x1 h)
def rT_goAll (d n i : Nat) (ls : am_L) (h : am_H) : am_Z := am_run 0 (fun _ => 0) cT_goAll (am_g d) n i ls h
theorem gT_goAll (d : Nat) (a1 : Nat) (x2 : Int32) (x3 : Int32) (x4 : Int32) (h : am_H) : am_g (d + 1) 39 [vr 4 79, vr 2 a1, vi x2, vi x3, vi x4] h =
  am_r0 (am_g d 168 [vr 484 (Int32.toNatClampNeg (h 79 0)), vi 536870912] (am_up (am_up h 79 2 536870912) 79 3 (-4))) fun h1 =>
  am_b 384 x3 fun j2 =>
  am_r0 (am_g d 42 [vr 4 79, vr 2 a1, vi x2] (am_up h1 (Int32.toNatClampNeg (h1 79 0)) j2 x4)) fun h3 =>
  am_r0 (am_g d 43 [vr 4 79, vr 2 a1, vi x2, vi 0] h3) fun h4 =>
  rT_goAll d 999999 27 [some (vr 4 79), some (vr 2 a1), some (vi x2), some (vi x3), some (vi x4), some (vi 1)] h4 := (am_g_run (tb := cT_goAll) rfl rfl (Nat.le_of_ble_eq_true rfl) rfl).trans (qT_goAll_0 (am_g d) 999999 a1 x2 x3 x4 h)
theorem tT_goAll_27 (d n : Nat) (a1 : Nat) (x2 : Int32) (x3 : Int32) (x4 : Int32) (x5 : Int32) (h : am_H) : rT_goAll d (n + 1) 27 [some (vr 4 79), some (vr 2 a1), some (vi x2), some (vi x3), some (vi x4), some (vi x5)] h =
  if 10 < x5 then
    (some (h, none))
  else am_r0 (am_g d 40 [vr 4 79, vr 2 a1, vi x2] h) fun h1 =>
  am_r0 (am_g d 42 [vr 4 79, vr 2 a1, vi x2] h1) fun h2 =>
  am_r0 (am_g d 43 [vr 4 79, vr 2 a1, vi x2, vi x5] h2) fun h3 =>
  rT_goAll d n 27 [some (vr 4 79), some (vr 2 a1), some (vi x2), some (vi x3), some (vi x4), some (vi (x5 + 1))] h3 := qT_goAll_27 (am_g d) n a1 x2 x3 x4 x5 h
def rT_step (d n i : Nat) (ls : am_L) (h : am_H) : am_Z := am_run 0 (fun _ => 0) cT_step (am_g d) n i ls h
theorem gT_step (d : Nat) (a1 : Nat) (x2 : Int32) (h : am_H) : am_g (d + 1) 40 [vr 4 79, vr 2 a1, vi x2] h =
  am_r0 (am_g d 168 [vr 484 (Int32.toNatClampNeg (h 79 1)), vi 536870912] h) fun h1 =>
  rT_step d 999999 7 [some (vr 4 79), some (vr 2 a1), some (vi x2), some (vi 0), none] h1 := (am_g_run (tb := cT_step) rfl rfl (Nat.le_of_ble_eq_true rfl) rfl).trans (qT_step_0 (am_g d) 999999 a1 x2 h)
theorem tT_step_7 (d n : Nat) (a1 : Nat) (x2 : Int32) (x3 : Int32) (u4 : Option am_V) (h : am_H) : rT_step d (n + 1) 7 [some (vr 4 79), some (vr 2 a1), some (vi x2), some (vi x3), u4] h =
  if x3 < x2 then
    (rT_step d n 13 [some (vr 4 79), some (vr 2 a1), some (vi x2), some (vi x3), some (vi 0)] h)
  else some (am_up (am_up h 79 0 (nI (Int32.toNatClampNeg (h 79 1)))) 79 1 (nI (Int32.toNatClampNeg (h 79 0))), none) := qT_step_7 (am_g d) n a1 x2 x3 u4 h
theorem tT_step_13 (d n : Nat) (a1 : Nat) (x2 : Int32) (x3 : Int32) (x4 : Int32) (h : am_H) : rT_step d (n + 1) 13 [some (vr 4 79), some (vr 2 a1), some (vi x2), some (vi x3), some (vi x4)] h =
  if x4 < (h a1 14) then
    (am_b 384 ((x3 * 6) + x4) fun j1 =>
    if (h (Int32.toNatClampNeg (h 79 0)) j1) = 536870912 then
      (rT_step d n 13 [some (vr 4 79), some (vr 2 a1), some (vi x2), some (vi x3), some (vi (x4 + 1))] h)
    else am_r0 (am_g d 41 [vr 4 79, vr 2 a1, vi x3, vi x4] h) fun h2 =>
    rT_step d n 13 [some (vr 4 79), some (vr 2 a1), some (vi x2), some (vi x3), some (vi (x4 + 1))] h2)
  else rT_step d n 7 [some (vr 4 79), some (vr 2 a1), some (vi x2), some (vi (x3 + 1)), some (vi x4)] h := qT_step_13 (am_g d) n a1 x2 x3 x4 h
def rT_leave (d n i : Nat) (ls : am_L) (h : am_H) : am_Z := am_run 0 (fun _ => 0) cT_leave (am_g d) n i ls h
theorem gT_leave (d : Nat) (a1 : Nat) (x2 : Int32) (x3 : Int32) (h : am_H) : am_g (d + 1) 41 [vr 4 79, vr 2 a1, vi x2, vi x3] h =
  am_b 384 ((x2 * 6) + x3) fun j1 =>
  rT_leave d 999999 12 [some (vr 4 79), some (vr 2 a1), some (vi x2), some (vi x3), some (vi (h (Int32.toNatClampNeg (h 79 0)) j1)), some (vi 0), none] h := (am_g_run (tb := cT_leave) rfl rfl (Nat.le_of_ble_eq_true rfl) rfl).trans (qT_leave_0 (am_g d) 999999 a1 x2 x3 h)
theorem tT_leave_12 (d n : Nat) (a1 : Nat) (x2 : Int32) (x3 : Int32) (x4 : Int32) (x5 : Int32) (u6 : Option am_V) (h : am_H) : rT_leave d (n + 1) 12 [some (vr 4 79), some (vr 2 a1), some (vi x2), some (vi x3), some (vi x4), some (vi x5), u6] h =
  if x5 < (h a1 15) then
    (am_r1 (am_g d 29 [vr 2 a1, vi x5, vi x3] h) fun h1 v2 =>
    if v2 = 0 then
      (rT_leave d n 12 [some (vr 4 79), some (vr 2 a1), some (vi x2), some (vi x3), some (vi x4), some (vi (x5 + 1)), u6] h1)
    else am_r1 (am_g d 30 [vr 2 a1, vi x5, vi x3] h1) fun h3 v4 =>
    am_b 384 ((x2 * 6) + v4) fun j5 =>
    am_r1 (am_g d 32 [vr 2 a1, vi x5, vi x3] h3) fun h6 v7 =>
    am_r1 (am_g d 167 [vi (h3 (Int32.toNatClampNeg (h3 79 1)) j5), vi (x4 + v7)] h6) fun h8 v9 =>
    am_b 384 ((x2 * 6) + v4) fun j10 =>
    rT_leave d n 12 [some (vr 4 79), some (vr 2 a1), some (vi x2), some (vi x3), some (vi x4), some (vi (x5 + 1)), some (vi ((x2 * 6) + v4))] (am_up h8 (Int32.toNatClampNeg (h3 79 1)) j10 v9))
  else some (h, none) := qT_leave_12 (am_g d) n a1 x2 x3 x4 x5 u6 h
def rT_stayOrNot (d n i : Nat) (ls : am_L) (h : am_H) : am_Z := am_run 0 (fun _ => 0) cT_stayOrNot (am_g d) n i ls h
theorem gT_stayOrNot (d : Nat) (a1 : Nat) (x2 : Int32) (h : am_H) : am_g (d + 1) 42 [vr 4 79, vr 2 a1, vi x2] h =
  rT_stayOrNot d 999999 3 [some (vr 4 79), some (vr 2 a1), some (vi x2), some (vi 0), none, none, none] h := (am_g_run (tb := cT_stayOrNot) rfl rfl (Nat.le_of_ble_eq_true rfl) rfl).trans (qT_stayOrNot_0 (am_g d) 999999 a1 x2 h)
theorem tT_stayOrNot_3 (d n : Nat) (a1 : Nat) (x2 : Int32) (x3 : Int32) (u4 : Option am_V) (u5 : Option am_V) (u6 : Option am_V) (h : am_H) : rT_stayOrNot d (n + 1) 3 [some (vr 4 79), some (vr 2 a1), some (vi x2), some (vi x3), u4, u5, u6] h =
  if x3 < x2 then
    (rT_stayOrNot d n 9 [some (vr 4 79), some (vr 2 a1), some (vi x2), some (vi x3), some (vi 0), u5, u6] h)
  else some (h, none) := qT_stayOrNot_3 (am_g d) n a1 x2 x3 u4 u5 u6 h
theorem tT_stayOrNot_9 (d n : Nat) (a1 : Nat) (x2 : Int32) (x3 : Int32) (x4 : Int32) (u5 : Option am_V) (u6 : Option am_V) (h : am_H) : rT_stayOrNot d (n + 1) 9 [some (vr 4 79), some (vr 2 a1), some (vi x2), some (vi x3), some (vi x4), u5, u6] h =
  if x4 < (h a1 14) then
    (am_b 384 ((x3 * 6) + x4) fun j1 =>
    if (h (Int32.toNatClampNeg (h 79 0)) j1) = 536870912 then
      (rT_stayOrNot d n 9 [some (vr 4 79), some (vr 2 a1), some (vi x2), some (vi x3), some (vi (x4 + 1)), some (vi (h (Int32.toNatClampNeg (h 79 0)) j1)), u6] h)
    else if (((x2 &&& (x3 ^^^ (-1))) >>> (x4 &&& 31)) &&& 1) = 1 then
      (am_b 384 (((x3 ||| ((1 : Int32) <<< (x4 &&& 31))) * 6) + x4) fun j2 =>
      am_b 6 x4 fun j3 =>
      am_r1 (am_g d 167 [vi (h (Int32.toNatClampNeg (h 79 0)) j2), vi ((h (Int32.toNatClampNeg (h 79 0)) j1) + (h (a1 + 4) j3))] h) fun h4 v5 =>
      am_b 384 (((x3 ||| ((1 : Int32) <<< (x4 &&& 31))) * 6) + x4) fun j6 =>
      rT_stayOrNot d n 9 [some (vr 4 79), some (vr 2 a1), some (vi x2), some (vi x3), some (vi (x4 + 1)), some (vi (h (Int32.toNatClampNeg (h 79 0)) j1)), some (vi (((x3 ||| ((1 : Int32) <<< (x4 &&& 31))) * 6) + x4))] (am_up h4 (Int32.toNatClampNeg (h 79 0)) j6 v5))
    else rT_stayOrNot d n 9 [some (vr 4 79), some (vr 2 a1), some (vi x2), some (vi x3), some (vi (x4 + 1)), some (vi (h (Int32.toNatClampNeg (h 79 0)) j1)), u6] h)
  else rT_stayOrNot d n 3 [some (vr 4 79), some (vr 2 a1), some (vi x2), some (vi (x3 + 1)), some (vi x4), u5, u6] h := qT_stayOrNot_9 (am_g d) n a1 x2 x3 x4 u5 u6 h
def rT_noteDone (d n i : Nat) (ls : am_L) (h : am_H) : am_Z := am_run 0 (fun _ => 0) cT_noteDone (am_g d) n i ls h
theorem gT_noteDone (d : Nat) (a1 : Nat) (x2 : Int32) (x3 : Int32) (h : am_H) : am_g (d + 1) 43 [vr 4 79, vr 2 a1, vi x2, vi x3] h =
  rT_noteDone d 999999 3 [some (vr 4 79), some (vr 2 a1), some (vi x2), some (vi x3), some (vi 0), none] h := (am_g_run (tb := cT_noteDone) rfl rfl (Nat.le_of_ble_eq_true rfl) rfl).trans (qT_noteDone_0 (am_g d) 999999 a1 x2 x3 h)
theorem tT_noteDone_3 (d n : Nat) (a1 : Nat) (x2 : Int32) (x3 : Int32) (x4 : Int32) (u5 : Option am_V) (h : am_H) : rT_noteDone d (n + 1) 3 [some (vr 4 79), some (vr 2 a1), some (vi x2), some (vi x3), some (vi x4), u5] h =
  if x4 < (h a1 14) then
    (am_b 384 ((x2 * 6) + x4) fun j1 =>
    if (h (Int32.toNatClampNeg (h 79 0)) j1) = 536870912 then
      (am_r1 (am_g d 167 [vi (h 79 2), vi (h (Int32.toNatClampNeg (h 79 0)) j1)] h) fun h2 v3 =>
      rT_noteDone d n 3 [some (vr 4 79), some (vr 2 a1), some (vi x2), some (vi x3), some (vi (x4 + 1)), some (vi (h (Int32.toNatClampNeg (h 79 0)) j1))] (am_up h2 79 2 v3))
    else if (h 79 3) = (-4) then
      (am_r1 (am_g d 167 [vi (h 79 2), vi (h (Int32.toNatClampNeg (h 79 0)) j1)] (am_up h 79 3 x3)) fun h4 v5 =>
      rT_noteDone d n 3 [some (vr 4 79), some (vr 2 a1), some (vi x2), some (vi x3), some (vi (x4 + 1)), some (vi (h (Int32.toNatClampNeg (h 79 0)) j1))] (am_up h4 79 2 v5))
    else am_r1 (am_g d 167 [vi (h 79 2), vi (h (Int32.toNatClampNeg (h 79 0)) j1)] h) fun h6 v7 =>
    rT_noteDone d n 3 [some (vr 4 79), some (vr 2 a1), some (vi x2), some (vi x3), some (vi (x4 + 1)), some (vi (h (Int32.toNatClampNeg (h 79 0)) j1))] (am_up h6 79 2 v7))
  else some (h, none) := qT_noteDone_3 (am_g d) n a1 x2 x3 x4 u5 h
def rW_begin (d n i : Nat) (ls : am_L) (h : am_H) : am_Z := am_run 0 (fun _ => 0) cW_begin (am_g d) n i ls h
theorem gW_begin (d : Nat) (x1 : Int32) (x2 : Int32) (h : am_H) : am_g (d + 1) 44 [vr 5 74, vi x1, vi x2] h =
  am_r0 (am_g d 168 [vr 106 75, vi 536870912] h) fun h1 =>
  am_r0 (am_g d 168 [vr 106 77, vi (-4)] h1) fun h2 =>
  am_b 6 x1 fun j3 =>
  some (am_up h2 75 j3 x2, none) := (am_g_run (tb := cW_begin) rfl rfl (Nat.le_of_ble_eq_true rfl) rfl).trans (qW_begin_0 (am_g d) 999999 x1 x2 h)
def rW_step (d n i : Nat) (ls : am_L) (h : am_H) : am_Z := am_run 0 (fun _ => 0) cW_step (am_g d) n i ls h
theorem gW_step (d : Nat) (a1 : Nat) (h : am_H) : am_g (d + 1) 45 [vr 5 74, vr 2 a1] h =
  am_r0 (am_g d 168 [vr 106 76, vi 536870912] h) fun h1 =>
  am_r0 (am_g d 168 [vr 106 78, vi (-4)] h1) fun h2 =>
  rW_step d 999999 11 [some (vr 5 74), some (vr 2 a1), some (vi 0)] h2 := (am_g_run (tb := cW_step) rfl rfl (Nat.le_of_ble_eq_true rfl) rfl).trans (qW_step_0 (am_g d) 999999 a1 h)
theorem tW_step_11 (d n : Nat) (a1 : Nat) (x2 : Int32) (h : am_H) : rW_step d (n + 1) 11 [some (vr 5 74), some (vr 2 a1), some (vi x2)] h =
  if x2 < (h a1 15) then
    (am_b 8 x2 fun j1 =>
    am_r0 (am_g d 46 [vr 5 74, vr 2 a1, vi x2, vi (h (a1 + 6) j1)] h) fun h2 =>
    am_b 8 x2 fun j3 =>
    am_r0 (am_g d 46 [vr 5 74, vr 2 a1, vi x2, vi (h2 (a1 + 7) j3)] h2) fun h4 =>
    rW_step d n 11 [some (vr 5 74), some (vr 2 a1), some (vi (x2 + 1))] h4)
  else some (va_up (va_up h 75 (va_cpy (h 76) (h 75) 0 0 6)) 77 (va_cpy ((va_up h 75 (va_cpy (h 76) (h 75) 0 0 6)) 78) ((va_up h 75 (va_cpy (h 76) (h 75) 0 0 6)) 77) 0 0 6), none) := qW_step_11 (am_g d) n a1 x2 h
def rW_offer (d n i : Nat) (ls : am_L) (h : am_H) : am_Z := am_run 0 (fun _ => 0) cW_offer (am_g d) n i ls h
theorem gW_offer (d : Nat) (a1 : Nat) (x2 : Int32) (x3 : Int32) (h : am_H) : am_g (d + 1) 46 [vr 5 74, vr 2 a1, vi x2, vi x3] h =
  am_b 6 x3 fun j1 =>
  if (h 75 j1) = 536870912 then
    (some (h, none))
  else am_r1 (am_g d 30 [vr 2 a1, vi x2, vi x3] h) fun h2 v3 =>
  am_b 6 x3 fun j4 =>
  am_r1 (am_g d 32 [vr 2 a1, vi x2, vi x3] h2) fun h5 v6 =>
  am_b 6 x3 fun j7 =>
  if (h5 77 j7) = (-4) then
    (am_b 6 v3 fun j8 =>
    if ((h2 75 j4) + v6) < (h5 76 j8) then
      (am_b 6 v3 fun j9 =>
      am_b 6 v3 fun j10 =>
      some (am_up (am_up h5 76 j9 ((h2 75 j4) + v6)) 78 j10 x2, none))
    else am_b 6 v3 fun j11 =>
    if ((h2 75 j4) + v6) = (h5 76 j11) then
      (am_b 6 v3 fun j12 =>
      if x2 < (h5 78 j12) then
        (am_b 6 v3 fun j13 =>
        am_b 6 v3 fun j14 =>
        some (am_up (am_up h5 76 j13 ((h2 75 j4) + v6)) 78 j14 x2, none))
      else some (h5, none))
    else some (h5, none))
  else am_b 6 x3 fun j15 =>
  am_b 6 v3 fun j16 =>
  if ((h2 75 j4) + v6) < (h5 76 j16) then
    (am_b 6 v3 fun j17 =>
    am_b 6 v3 fun j18 =>
    some (am_up (am_up h5 76 j17 ((h2 75 j4) + v6)) 78 j18 (h5 77 j15), none))
  else am_b 6 v3 fun j19 =>
  if ((h2 75 j4) + v6) = (h5 76 j19) then
    (am_b 6 v3 fun j20 =>
    if (h5 77 j15) < (h5 78 j20) then
      (am_b 6 v3 fun j21 =>
      am_b 6 v3 fun j22 =>
      some (am_up (am_up h5 76 j21 ((h2 75 j4) + v6)) 78 j22 (h5 77 j15), none))
    else some (h5, none))
  else some (h5, none) := (am_g_run (tb := cW_offer) rfl rfl (Nat.le_of_ble_eq_true rfl) rfl).trans (qW_offer_0 (am_g d) 999999 a1 x2 x3 h)
def rW_isEven (d n i : Nat) (ls : am_L) (h : am_H) : am_Z := am_run 0 (fun _ => 0) cW_isEven (am_g d) n i ls h
theorem gW_isEven (d : Nat) (a1 : Nat) (h : am_H) : am_g (d + 1) 47 [vr 5 74, vr 2 a1] h =
  am_r0 (am_g d 168 [vr 106 75, vi 536870912] h) fun h1 =>
  rW_isEven d 999999 7 [some (vr 5 74), some (vr 2 a1), some (vi 0)] h1 := (am_g_run (tb := cW_isEven) rfl rfl (Nat.le_of_ble_eq_true rfl) rfl).trans (qW_isEven_0 (am_g d) 999999 a1 h)
theorem tW_isEven_7 (d n : Nat) (a1 : Nat) (x2 : Int32) (h : am_H) : rW_isEven d (n + 1) 7 [some (vr 5 74), some (vr 2 a1), some (vi x2)] h =
  if x2 < (h a1 14) then
    (am_b 6 x2 fun j1 =>
    if (h 75 j1) = 536870912 then
      (am_b 6 x2 fun j2 =>
      am_r0 (am_g d 48 [vr 5 74, vr 2 a1] (am_up h 75 j2 0)) fun h3 =>
      rW_isEven d n 7 [some (vr 5 74), some (vr 2 a1), some (vi (x2 + 1))] h3)
    else rW_isEven d n 7 [some (vr 5 74), some (vr 2 a1), some (vi (x2 + 1))] h)
  else rW_isEven d n 30 [some (vr 5 74), some (vr 2 a1), some (vi 0)] h := qW_isEven_7 (am_g d) n a1 x2 h
theorem tW_isEven_30 (d n : Nat) (a1 : Nat) (x2 : Int32) (h : am_H) : rW_isEven d (n + 1) 30 [some (vr 5 74), some (vr 2 a1), some (vi x2)] h =
  if x2 < (h a1 15) then
    (am_b 8 x2 fun j1 =>
    am_b 6 (h (a1 + 7) j1) fun j2 =>
    am_b 8 x2 fun j3 =>
    am_b 6 (h (a1 + 6) j3) fun j4 =>
    am_b 8 x2 fun j5 =>
    if ((h 75 j2) - (h 75 j4)) = (h (a1 + 8) j5) then
      (rW_isEven d n 30 [some (vr 5 74), some (vr 2 a1), some (vi (x2 + 1))] h)
    else some (h, some 0))
  else some (h, some 1) := qW_isEven_30 (am_g d) n a1 x2 h
def rW_spread (d n i : Nat) (ls : am_L) (h : am_H) : am_Z := am_run 0 (fun _ => 0) cW_spread (am_g d) n i ls h
theorem gW_spread (d : Nat) (a1 : Nat) (h : am_H) : am_g (d + 1) 48 [vr 5 74, vr 2 a1] h =
  rW_spread d 999999 3 [some (vr 5 74), some (vr 2 a1), some (vi 1), none, none, none] h := (am_g_run (tb := cW_spread) rfl rfl (Nat.le_of_ble_eq_true rfl) rfl).trans (qW_spread_0 (am_g d) 999999 a1 h)
theorem tW_spread_3 (d n : Nat) (a1 : Nat) (x2 : Int32) (u3 : Option am_V) (u4 : Option am_V) (u5 : Option am_V) (h : am_H) : rW_spread d (n + 1) 3 [some (vr 5 74), some (vr 2 a1), some (vi x2), u3, u4, u5] h =
  if x2 < (h a1 14) then
    (rW_spread d n 10 [some (vr 5 74), some (vr 2 a1), some (vi x2), some (vi 0), u4, u5] h)
  else some (h, none) := qW_spread_3 (am_g d) n a1 x2 u3 u4 u5 h
theorem tW_spread_10 (d n : Nat) (a1 : Nat) (x2 : Int32) (x3 : Int32) (u4 : Option am_V) (u5 : Option am_V) (h : am_H) : rW_spread d (n + 1) 10 [some (vr 5 74), some (vr 2 a1), some (vi x2), some (vi x3), u4, u5] h =
  if x3 < (h a1 15) then
    (am_b 8 x3 fun j1 =>
    am_b 8 x3 fun j2 =>
    am_b 6 (h (a1 + 6) j1) fun j3 =>
    if (h 75 j3) = 536870912 then
      (am_b 6 (h (a1 + 7) j2) fun j4 =>
      if (h 75 j4) = 536870912 then
        (rW_spread d n 10 [some (vr 5 74), some (vr 2 a1), some (vi x2), some (vi (x3 + 1)), some (vi (h (a1 + 6) j1)), some (vi (h (a1 + 7) j2))] h)
      else am_b 6 (h (a1 + 6) j1) fun j5 =>
      if (h 75 j5) = 536870912 then
        (am_b 6 (h (a1 + 7) j2) fun j6 =>
        am_b 8 x3 fun j7 =>
        am_b 6 (h (a1 + 6) j1) fun j8 =>
        rW_spread d n 10 [some (vr 5 74), some (vr 2 a1), some (vi x2), some (vi (x3 + 1)), some (vi (h (a1 + 6) j1)), some (vi (h (a1 + 7) j2))] (am_up h 75 j8 ((h 75 j6) - (h (a1 + 8) j7))))
      else rW_spread d n 10 [some (vr 5 74), some (vr 2 a1), some (vi x2), some (vi (x3 + 1)), some (vi (h (a1 + 6) j1)), some (vi (h (a1 + 7) j2))] h)
    else am_b 6 (h (a1 + 7) j2) fun j9 =>
    if (h 75 j9) = 536870912 then
      (am_b 6 (h (a1 + 6) j1) fun j10 =>
      am_b 8 x3 fun j11 =>
      am_b 6 (h (a1 + 7) j2) fun j12 =>
      rW_spread d n 10 [some (vr 5 74), some (vr 2 a1), some (vi x2), some (vi (x3 + 1)), some (vi (h (a1 + 6) j1)), some (vi (h (a1 + 7) j2))] (am_up h 75 j12 ((h 75 j10) + (h (a1 + 8) j11))))
    else am_b 6 (h (a1 + 7) j2) fun j13 =>
    if (h 75 j13) = 536870912 then
      (rW_spread d n 10 [some (vr 5 74), some (vr 2 a1), some (vi x2), some (vi (x3 + 1)), some (vi (h (a1 + 6) j1)), some (vi (h (a1 + 7) j2))] h)
    else am_b 6 (h (a1 + 6) j1) fun j14 =>
    if (h 75 j14) = 536870912 then
      (am_b 6 (h (a1 + 7) j2) fun j15 =>
      am_b 8 x3 fun j16 =>
      am_b 6 (h (a1 + 6) j1) fun j17 =>
      rW_spread d n 10 [some (vr 5 74), some (vr 2 a1), some (vi x2), some (vi (x3 + 1)), some (vi (h (a1 + 6) j1)), some (vi (h (a1 + 7) j2))] (am_up h 75 j17 ((h 75 j15) - (h (a1 + 8) j16))))
    else rW_spread d n 10 [some (vr 5 74), some (vr 2 a1), some (vi x2), some (vi (x3 + 1)), some (vi (h (a1 + 6) j1)), some (vi (h (a1 + 7) j2))] h)
  else rW_spread d n 3 [some (vr 5 74), some (vr 2 a1), some (vi (x2 + 1)), some (vi x3), u4, u5] h := qW_spread_10 (am_g d) n a1 x2 x3 u4 u5 h
def rC_write (d n i : Nat) (ls : am_L) (h : am_H) : am_Z := am_run 0 (fun _ => 0) cC_write (am_g d) n i ls h
theorem gC_write (d : Nat) (x1 : Int32) (h : am_H) : am_g (d + 1) 49 [vr 6 0, vi x1] h =
  if x1 < 32 then
    (some (h, some (-1)))
  else if 126 < x1 then
    (some (h, some (-1)))
  else if (h 0 1) < 200 then
    (am_b 200 (h 0 1) fun j1 =>
    some (am_up (am_up h 1 j1 (vp_nar .char (am_i2c x1))) 0 1 ((h 0 1) + 1), some ((h 0 1) + 1)))
  else some (h, some (-3)) := (am_g_run (tb := cC_write) rfl rfl (Nat.le_of_ble_eq_true rfl) rfl).trans (qC_write_0 (am_g d) 999999 x1 h)
def rC_wipe (d n i : Nat) (ls : am_L) (h : am_H) : am_Z := am_run 0 (fun _ => 0) cC_wipe (am_g d) n i ls h
theorem gC_wipe (d : Nat)  (h : am_H) : am_g (d + 1) 50 [vr 6 0] h =
  some (am_up h 0 1 0, some (h 0 1)) := (am_g_run (tb := cC_wipe) rfl rfl (Nat.le_of_ble_eq_true rfl) rfl).trans (qC_wipe_0 (am_g d) 999999  h)
def rC_fault (d n i : Nat) (ls : am_L) (h : am_H) : am_Z := am_run 0 (fun _ => 0) cC_fault (am_g d) n i ls h
theorem gC_fault (d : Nat)  (h : am_H) : am_g (d + 1) 51 [vr 6 0] h =
  am_r1 (am_g d 18 [vr 2 (Int32.toNatClampNeg (h 0 3)), vr 9 1, vi (h 0 1)] h) fun h1 v2 =>
  some (h1, some v2) := (am_g_run (tb := cC_fault) rfl rfl (Nat.le_of_ble_eq_true rfl) rfl).trans (qC_fault_0 (am_g d) 999999  h)
def rC_lay (d n i : Nat) (ls : am_L) (h : am_H) : am_Z := am_run 0 (fun _ => 0) cC_lay (am_g d) n i ls h
theorem gC_lay (d : Nat)  (h : am_H) : am_g (d + 1) 52 [vr 6 0] h =
  am_r1 (am_g d 18 [vr 2 (Int32.toNatClampNeg (h 0 3)), vr 9 1, vi (h 0 1)] h) fun h1 v2 =>
  if v2 = (-4) then
    (if (h1 (Int32.toNatClampNeg (h1 0 3)) 16) = 0 then
      (some (h1, some (-2)))
    else am_r0 (am_g d 81 [vr 6 0] h1) fun h3 =>
    some (h3, some (h3 (Int32.toNatClampNeg (h3 0 2)) 14)))
  else some (h1, some (-2)) := (am_g_run (tb := cC_lay) rfl rfl (Nat.le_of_ble_eq_true rfl) rfl).trans (qC_lay_0 (am_g d) 999999  h)
def rC_room (d n i : Nat) (ls : am_L) (h : am_H) : am_Z := am_run 0 (fun _ => 0) cC_room (am_g d) n i ls h
theorem gC_room (d : Nat) (x1 : Int32) (x2 : Int32) (h : am_H) : am_g (d + 1) 53 [vr 6 0, vi x1, vi x2] h =
  am_r1 (am_g d 91 [vr 6 0, vi x1] h) fun h1 v2 =>
  if v2 = 0 then
    (some (h1, some (-1)))
  else if x2 = nI 0 then
    (am_b 6 x1 fun j3 =>
    some (h1, some (h1 ((Int32.toNatClampNeg (h1 0 2)) + 1) j3)))
  else if x2 = nI 1 then
    (am_b 6 x1 fun j4 =>
    some (h1, some (h1 ((Int32.toNatClampNeg (h1 0 2)) + 2) j4)))
  else if x2 = nI 2 then
    (am_b 6 x1 fun j5 =>
    some (h1, some (h1 ((Int32.toNatClampNeg (h1 0 2)) + 3) j5)))
  else if x2 = nI 3 then
    (am_b 6 x1 fun j6 =>
    some (h1, some (h1 ((Int32.toNatClampNeg (h1 0 2)) + 4) j6)))
  else some (h1, some (-1)) := (am_g_run (tb := cC_room) rfl rfl (Nat.le_of_ble_eq_true rfl) rfl).trans (qC_room_0 (am_g d) 999999 x1 x2 h)
def rC_clock (d n i : Nat) (ls : am_L) (h : am_H) : am_Z := am_run 0 (fun _ => 0) cC_clock (am_g d) n i ls h
theorem gC_clock (d : Nat) (x1 : Int32) (x2 : Int32) (x3 : Int32) (h : am_H) : am_g (d + 1) 54 [vr 6 0, vi x1, vi x2, vi x3] h =
  am_r1 (am_g d 91 [vr 6 0, vi x1] h) fun h1 v2 =>
  if v2 = 0 then
    (some (h1, some (-1)))
  else am_r1 (am_g d 90 [vi x2] h1) fun h3 v4 =>
  if v4 = 0 then
    (some (h3, some (-1)))
  else am_r1 (am_g d 89 [vi x3, vi 2] h3) fun h5 v6 =>
  if v6 = 0 then
    (some (h5, some (-1)))
  else am_b 6 x1 fun j7 =>
  am_b 6 x1 fun j8 =>
  am_b 6 x1 fun j9 =>
  am_r1 (am_g d 165 [vi (((h5 ((Int32.toNatClampNeg (h5 0 2)) + 3) j8) * (12 * (h5 ((Int32.toNatClampNeg (h5 0 2)) + 2) j7))) + (x2 * (h5 ((Int32.toNatClampNeg (h5 0 2)) + 1) j9))), vi (24 * (12 * (h5 ((Int32.toNatClampNeg (h5 0 2)) + 2) j7)))] h5) fun h10 v11 =>
  am_r1 (am_g d 87 [vi v11, vi (12 * (h5 ((Int32.toNatClampNeg (h5 0 2)) + 2) j7))] h10) fun h12 v13 =>
  if x3 = 0 then
    (if v13 = 0 then none else
    some (h12, some (v11 / v13)))
  else if v13 = 0 then none else
  some (h12, some ((12 * (h5 ((Int32.toNatClampNeg (h5 0 2)) + 2) j7)) / v13)) := (am_g_run (tb := cC_clock) rfl rfl (Nat.le_of_ble_eq_true rfl) rfl).trans (qC_clock_0 (am_g d) 999999 x1 x2 x3 h)
def rC_door (d n i : Nat) (ls : am_L) (h : am_H) : am_Z := am_run 0 (fun _ => 0) cC_door (am_g d) n i ls h
theorem gC_door (d : Nat) (x1 : Int32) (x2 : Int32) (h : am_H) : am_g (d + 1) 55 [vr 6 0, vi x1, vi x2] h =
  am_r1 (am_g d 92 [vr 6 0, vi x1] h) fun h1 v2 =>
  if v2 = 0 then
    (some (h1, some (-1)))
  else if x2 = nI 0 then
    (am_b 8 x1 fun j3 =>
    some (h1, some (h1 ((Int32.toNatClampNeg (h1 0 2)) + 6) j3)))
  else if x2 = nI 1 then
    (am_b 8 x1 fun j4 =>
    some (h1, some (h1 ((Int32.toNatClampNeg (h1 0 2)) + 7) j4)))
  else if x2 = nI 2 then
    (am_b 8 x1 fun j5 =>
    some (h1, some ((h1 ((Int32.toNatClampNeg (h1 0 2)) + 8) j5) + 24)))
  else some (h1, some (-1)) := (am_g_run (tb := cC_door) rfl rfl (Nat.le_of_ble_eq_true rfl) rfl).trans (qC_door_0 (am_g d) 999999 x1 x2 h)
def rC_person (d n i : Nat) (ls : am_L) (h : am_H) : am_Z := am_run 0 (fun _ => 0) cC_person (am_g d) n i ls h
theorem gC_person (d : Nat) (x1 : Int32) (x2 : Int32) (h : am_H) : am_g (d + 1) 56 [vr 6 0, vi x1, vi x2] h =
  am_r1 (am_g d 93 [vr 6 0, vi x1] h) fun h1 v2 =>
  if v2 = 0 then
    (some (h1, some (-1)))
  else if x2 = nI 0 then
    (am_b 4 x1 fun j3 =>
    some (h1, some (h1 33 j3)))
  else if x2 = nI 1 then
    (am_b 4 x1 fun j4 =>
    am_r1 (am_g d 88 [vi (h1 34 j4)] h1) fun h5 v6 =>
    some (h5, some v6))
  else if x2 = nI 2 then
    (am_b 4 x1 fun j7 =>
    some (h1, some (h1 35 j7)))
  else if x2 = nI 3 then
    (am_r1 (am_g d 15 [vr 1 32, vi x1] h1) fun h8 v9 =>
    some (h8, some v9))
  else if x2 = nI 4 then
    (am_r1 (am_g d 16 [vr 1 32, vi x1] h1) fun h10 v11 =>
    some (h10, some v11))
  else some (h1, some (-1)) := (am_g_run (tb := cC_person) rfl rfl (Nat.le_of_ble_eq_true rfl) rfl).trans (qC_person_0 (am_g d) 999999 x1 x2 h)
def rC_thing (d n i : Nat) (ls : am_L) (h : am_H) : am_Z := am_run 0 (fun _ => 0) cC_thing (am_g d) n i ls h
theorem gC_thing (d : Nat) (x1 : Int32) (x2 : Int32) (h : am_H) : am_g (d + 1) 57 [vr 6 0, vi x1, vi x2] h =
  am_r1 (am_g d 94 [vr 6 0, vi x1] h) fun h1 v2 =>
  if v2 = 0 then
    (some (h1, some (-1)))
  else if x2 = nI 0 then
    (am_b 5 x1 fun j3 =>
    some (h1, some (h1 ((Int32.toNatClampNeg (h1 0 2)) + 12) j3)))
  else if x2 = nI 1 then
    (am_b 5 x1 fun j4 =>
    some (h1, some (h1 ((Int32.toNatClampNeg (h1 0 2)) + 13) j4)))
  else if x2 = nI 2 then
    (am_b 5 x1 fun j5 =>
    some (h1, some (h1 37 j5)))
  else if x2 = nI 3 then
    (am_b 5 x1 fun j6 =>
    some (h1, some (h1 38 j6)))
  else if x2 = nI 4 then
    (am_b 5 x1 fun j7 =>
    if (h1 37 j7) = (-4) then
      (some (h1, some (-4)))
    else am_b 5 x1 fun j8 =>
    am_r1 (am_g d 88 [vi (h1 39 j8)] h1) fun h9 v10 =>
    some (h9, some v10))
  else if x2 = nI 5 then
    (am_b 5 x1 fun j11 =>
    some (h1, some ((h1 40 j11) / 144)))
  else some (h1, some (-1)) := (am_g_run (tb := cC_thing) rfl rfl (Nat.le_of_ble_eq_true rfl) rfl).trans (qC_thing_0 (am_g d) 999999 x1 x2 h)
def rC_worth (d n i : Nat) (ls : am_L) (h : am_H) : am_Z := am_run 0 (fun _ => 0) cC_worth (am_g d) n i ls h
theorem gC_worth (d : Nat) (x1 : Int32) (x2 : Int32) (h : am_H) : am_g (d + 1) 58 [vr 6 0, vi x1, vi x2] h =
  am_r1 (am_g d 94 [vr 6 0, vi x1] h) fun h1 v2 =>
  if v2 = 0 then
    (some (h1, some (-1)))
  else am_r1 (am_g d 90 [vi x2] h1) fun h3 v4 =>
  if v4 = 0 then
    (some (h3, some (-1)))
  else am_b 5 x1 fun j5 =>
  if (h3 37 j5) = (-4) then
    (some (h3, some (-2)))
  else am_b 5 x1 fun j6 =>
  if x2 < (h3 39 j6) then
    (some (h3, some (-2)))
  else am_r1 (am_g d 14 [vr 1 32, vi x1, vi x2] h3) fun h7 v8 =>
  am_r1 (am_g d 33 [vr 2 (Int32.toNatClampNeg (h3 0 2)), vi x1, vi v8] h7) fun h9 v10 =>
  some (h9, some v10) := (am_g_run (tb := cC_worth) rfl rfl (Nat.le_of_ble_eq_true rfl) rfl).trans (qC_worth_0 (am_g d) 999999 x1 x2 h)
def rC_stay (d n i : Nat) (ls : am_L) (h : am_H) : am_Z := am_run 0 (fun _ => 0) cC_stay (am_g d) n i ls h
theorem gC_stay (d : Nat) (x1 : Int32) (x2 : Int32) (h : am_H) : am_g (d + 1) 59 [vr 6 0, vi x1, vi x2] h =
  am_r1 (am_g d 93 [vr 6 0, vi x1] h) fun h1 v2 =>
  if v2 = 0 then
    (some (h1, some (-1)))
  else if x2 < 1 then
    (some (h1, some (-1)))
  else if 24 < x2 then
    (some (h1, some (-1)))
  else am_r1 (am_g d 83 [vr 6 0, vi 0, vi x1, vi x2] h1) fun h3 v4 =>
  if v4 = 0 then
    (some (h3, some (-3)))
  else am_b 4 x1 fun j5 =>
  am_r1 (am_g d 88 [vi (h3 34 j5)] h3) fun h6 v7 =>
  some (h6, some v7) := (am_g_run (tb := cC_stay) rfl rfl (Nat.le_of_ble_eq_true rfl) rfl).trans (qC_stay_0 (am_g d) 999999 x1 x2 h)
def rC_go (d n i : Nat) (ls : am_L) (h : am_H) : am_Z := am_run 0 (fun _ => 0) cC_go (am_g d) n i ls h
theorem gC_go (d : Nat) (x1 : Int32) (x2 : Int32) (h : am_H) : am_g (d + 1) 60 [vr 6 0, vi x1, vi x2] h =
  am_r1 (am_g d 93 [vr 6 0, vi x1] h) fun h1 v2 =>
  if v2 = 0 then
    (some (h1, some (-1)))
  else am_r1 (am_g d 92 [vr 6 0, vi x2] h1) fun h3 v4 =>
  if v4 = 0 then
    (some (h3, some (-1)))
  else am_r1 (am_g d 4 [vr 1 32, vi x1, vi x2] h3) fun h5 v6 =>
  if v6 = 0 then
    (some (h5, some (-2)))
  else am_r1 (am_g d 83 [vr 6 0, vi 1, vi x1, vi x2] h5) fun h7 v8 =>
  if v8 = 0 then
    (some (h7, some (-3)))
  else am_b 4 x1 fun j9 =>
  am_r1 (am_g d 88 [vi (h7 34 j9)] h7) fun h10 v11 =>
  some (h10, some v11) := (am_g_run (tb := cC_go) rfl rfl (Nat.le_of_ble_eq_true rfl) rfl).trans (qC_go_0 (am_g d) 999999 x1 x2 h)
def rC_take (d n i : Nat) (ls : am_L) (h : am_H) : am_Z := am_run 0 (fun _ => 0) cC_take (am_g d) n i ls h
theorem gC_take (d : Nat) (x1 : Int32) (x2 : Int32) (h : am_H) : am_g (d + 1) 61 [vr 6 0, vi x1, vi x2] h =
  am_r1 (am_g d 93 [vr 6 0, vi x1] h) fun h1 v2 =>
  if v2 = 0 then
    (some (h1, some (-1)))
  else am_r1 (am_g d 94 [vr 6 0, vi x2] h1) fun h3 v4 =>
  if v4 = 0 then
    (some (h3, some (-1)))
  else am_r1 (am_g d 5 [vr 1 32, vi x1, vi x2] h3) fun h5 v6 =>
  if v6 = 0 then
    (some (h5, some (-2)))
  else am_r1 (am_g d 83 [vr 6 0, vi 2, vi x1, vi x2] h5) fun h7 v8 =>
  if v8 = 0 then
    (some (h7, some (-3)))
  else am_r1 (am_g d 15 [vr 1 32, vi x1] h7) fun h9 v10 =>
  am_r1 (am_g d 164 [vi v10] h9) fun h11 v12 =>
  some (h11, some v12) := (am_g_run (tb := cC_take) rfl rfl (Nat.le_of_ble_eq_true rfl) rfl).trans (qC_take_0 (am_g d) 999999 x1 x2 h)
def rC_put (d n i : Nat) (ls : am_L) (h : am_H) : am_Z := am_run 0 (fun _ => 0) cC_put (am_g d) n i ls h
theorem gC_put (d : Nat) (x1 : Int32) (x2 : Int32) (h : am_H) : am_g (d + 1) 62 [vr 6 0, vi x1, vi x2] h =
  am_r1 (am_g d 93 [vr 6 0, vi x1] h) fun h1 v2 =>
  if v2 = 0 then
    (some (h1, some (-1)))
  else am_r1 (am_g d 94 [vr 6 0, vi x2] h1) fun h3 v4 =>
  if v4 = 0 then
    (some (h3, some (-1)))
  else am_r1 (am_g d 6 [vr 1 32, vi x1, vi x2] h3) fun h5 v6 =>
  if v6 = 0 then
    (some (h5, some (-2)))
  else am_r1 (am_g d 83 [vr 6 0, vi 3, vi x1, vi x2] h5) fun h7 v8 =>
  if v8 = 0 then
    (some (h7, some (-3)))
  else am_r1 (am_g d 15 [vr 1 32, vi x1] h7) fun h9 v10 =>
  am_r1 (am_g d 164 [vi v10] h9) fun h11 v12 =>
  some (h11, some v12) := (am_g_run (tb := cC_put) rfl rfl (Nat.le_of_ble_eq_true rfl) rfl).trans (qC_put_0 (am_g d) 999999 x1 x2 h)
def rC_undo (d n i : Nat) (ls : am_L) (h : am_H) : am_Z := am_run 0 (fun _ => 0) cC_undo (am_g d) n i ls h
theorem gC_undo (d : Nat)  (h : am_H) : am_g (d + 1) 63 [vr 6 0] h =
  if (h 58 3) = 0 then
    (some (h, some (-2)))
  else am_r0 (am_g d 82 [vr 6 0, vr 1 32, vi (-4)] (am_up h 58 3 ((h 58 3) - 1))) fun h1 =>
  some (h1, some (h1 58 3)) := (am_g_run (tb := cC_undo) rfl rfl (Nat.le_of_ble_eq_true rfl) rfl).trans (qC_undo_0 (am_g d) 999999  h)
def rC_meet (d n i : Nat) (ls : am_L) (h : am_H) : am_Z := am_run 0 (fun _ => 0) cC_meet (am_g d) n i ls h
theorem gC_meet (d : Nat) (x1 : Int32) (x2 : Int32) (x3 : Int32) (h : am_H) : am_g (d + 1) 64 [vr 6 0, vi x1, vi x2, vi x3] h =
  am_r1 (am_g d 93 [vr 6 0, vi x1] h) fun h1 v2 =>
  if v2 = 0 then
    (some (h1, some (-1)))
  else am_r1 (am_g d 93 [vr 6 0, vi x2] h1) fun h3 v4 =>
  if v4 = 0 then
    (some (h3, some (-1)))
  else am_r1 (am_g d 89 [vi x3, vi 2] h3) fun h5 v6 =>
  if v6 = 0 then
    (some (h5, some (-1)))
  else rC_meet d 999999 21 [some (vr 6 0), some (vi x1), some (vi x2), some (vi x3), some (vi 536870912), some (vi (-4)), some (vi 0), none, none, none] h5 := (am_g_run (tb := cC_meet) rfl rfl (Nat.le_of_ble_eq_true rfl) rfl).trans (qC_meet_0 (am_g d) 999999 x1 x2 x3 h)
theorem tC_meet_21 (d n : Nat) (x1 : Int32) (x2 : Int32) (x3 : Int32) (x4 : Int32) (x5 : Int32) (x6 : Int32) (u7 : Option am_V) (u8 : Option am_V) (u9 : Option am_V) (h : am_H) : rC_meet d (n + 1) 21 [some (vr 6 0), some (vi x1), some (vi x2), some (vi x3), some (vi x4), some (vi x5), some (vi x6), u7, u8, u9] h =
  if x6 < (h 32 14) then
    (rC_meet d n 29 [some (vr 6 0), some (vi x1), some (vi x2), some (vi x3), some (vi x4), some (vi x5), some (vi x6), some (vi 0), u8, u9] h)
  else if x4 = 536870912 then
    (some (h, some (-4)))
  else if x3 = 0 then
    (am_r1 (am_g d 88 [vi x4] h) fun h1 v2 =>
    some (h1, some v2))
  else some (h, some x5) := qC_meet_21 (am_g d) n x1 x2 x3 x4 x5 x6 u7 u8 u9 h
theorem tC_meet_29 (d n : Nat) (x1 : Int32) (x2 : Int32) (x3 : Int32) (x4 : Int32) (x5 : Int32) (x6 : Int32) (x7 : Int32) (u8 : Option am_V) (u9 : Option am_V) (h : am_H) : rC_meet d (n + 1) 29 [some (vr 6 0), some (vi x1), some (vi x2), some (vi x3), some (vi x4), some (vi x5), some (vi x6), some (vi x7), u8, u9] h =
  if x7 < (h 32 14) then
    (if x6 = x7 then
      (rC_meet d n 29 [some (vr 6 0), some (vi x1), some (vi x2), some (vi x3), some (vi x4), some (vi x5), some (vi x6), some (vi (x7 + 1)), u8, u9] h)
    else am_b 44 x6 fun j1 =>
    if (h 41 j1) = x1 then
      (am_b 44 x7 fun j2 =>
      if (h 41 j2) = x2 then
        (am_r1 (am_g d 17 [vr 1 32, vi x6, vi x7] h) fun h3 v4 =>
        am_b 44 x6 fun j5 =>
        if v4 < x4 then
          (rC_meet d n 29 [some (vr 6 0), some (vi x1), some (vi x2), some (vi x3), some (vi v4), some (vi (h3 42 j5)), some (vi x6), some (vi (x7 + 1)), some (vi v4), some (vi (h3 42 j5))] h3)
        else if v4 = x4 then
          (if v4 = 536870912 then
            (rC_meet d n 29 [some (vr 6 0), some (vi x1), some (vi x2), some (vi x3), some (vi x4), some (vi x5), some (vi x6), some (vi (x7 + 1)), some (vi v4), some (vi (h3 42 j5))] h3)
          else if (h3 42 j5) < x5 then
            (rC_meet d n 29 [some (vr 6 0), some (vi x1), some (vi x2), some (vi x3), some (vi v4), some (vi (h3 42 j5)), some (vi x6), some (vi (x7 + 1)), some (vi v4), some (vi (h3 42 j5))] h3)
          else rC_meet d n 29 [some (vr 6 0), some (vi x1), some (vi x2), some (vi x3), some (vi x4), some (vi x5), some (vi x6), some (vi (x7 + 1)), some (vi v4), some (vi (h3 42 j5))] h3)
        else rC_meet d n 29 [some (vr 6 0), some (vi x1), some (vi x2), some (vi x3), some (vi x4), some (vi x5), some (vi x6), some (vi (x7 + 1)), some (vi v4), some (vi (h3 42 j5))] h3)
      else rC_meet d n 29 [some (vr 6 0), some (vi x1), some (vi x2), some (vi x3), some (vi x4), some (vi x5), some (vi x6), some (vi (x7 + 1)), u8, u9] h)
    else rC_meet d n 29 [some (vr 6 0), some (vi x1), some (vi x2), some (vi x3), some (vi x4), some (vi x5), some (vi x6), some (vi (x7 + 1)), u8, u9] h)
  else rC_meet d n 21 [some (vr 6 0), some (vi x1), some (vi x2), some (vi x3), some (vi x4), some (vi x5), some (vi (x6 + 1)), some (vi x7), u8, u9] h := qC_meet_29 (am_g d) n x1 x2 x3 x4 x5 x6 x7 u8 u9 h
def rC_early (d n i : Nat) (ls : am_L) (h : am_H) : am_Z := am_run 0 (fun _ => 0) cC_early (am_g d) n i ls h
theorem gC_early (d : Nat) (x1 : Int32) (x2 : Int32) (x3 : Int32) (x4 : Int32) (h : am_H) : am_g (d + 1) 65 [vr 6 0, vi x1, vi x2, vi x3, vi x4] h =
  am_r1 (am_g d 93 [vr 6 0, vi x1] h) fun h1 v2 =>
  if v2 = 0 then
    (some (h1, some (-1)))
  else am_r1 (am_g d 91 [vr 6 0, vi x2] h1) fun h3 v4 =>
  if v4 = 0 then
    (some (h3, some (-1)))
  else if x3 < 0 then
    (some (h3, some (-1)))
  else if 8 < x3 then
    (some (h3, some (-1)))
  else am_r1 (am_g d 89 [vi x4, vi 3] h3) fun h5 v6 =>
  if v6 = 0 then
    (some (h5, some (-1)))
  else am_b 4 x1 fun j7 =>
  am_b 4 x1 fun j8 =>
  am_r0 (am_g d 44 [vr 5 74, vi (h5 33 j7), vi (h5 34 j8)] h5) fun h9 =>
  rC_early d 999999 41 [some (vr 6 0), some (vi x1), some (vi x2), some (vi x3), some (vi x4), some (vi 536870912), some (vi (-4)), some (vi (-4)), some (vi 0)] h9 := (am_g_run (tb := cC_early) rfl rfl (Nat.le_of_ble_eq_true rfl) rfl).trans (qC_early_0 (am_g d) 999999 x1 x2 x3 x4 h)
theorem tC_early_41 (d n : Nat) (x1 : Int32) (x2 : Int32) (x3 : Int32) (x4 : Int32) (x5 : Int32) (x6 : Int32) (x7 : Int32) (x8 : Int32) (h : am_H) : rC_early d (n + 1) 41 [some (vr 6 0), some (vi x1), some (vi x2), some (vi x3), some (vi x4), some (vi x5), some (vi x6), some (vi x7), some (vi x8)] h =
  if x3 < x8 then
    (if x5 = 536870912 then
      (some (h, some (-4)))
    else if x4 = 0 then
      (am_r1 (am_g d 88 [vi x5] h) fun h1 v2 =>
      some (h1, some v2))
    else if x4 = 1 then
      (some (h, some x6))
    else some (h, some x7))
  else am_b 6 x2 fun j3 =>
  if (h 75 j3) < x5 then
    (am_b 6 x2 fun j4 =>
    am_b 6 x2 fun j5 =>
    am_r0 (am_g d 45 [vr 5 74, vr 2 (Int32.toNatClampNeg (h 0 2))] h) fun h6 =>
    rC_early d n 41 [some (vr 6 0), some (vi x1), some (vi x2), some (vi x3), some (vi x4), some (vi (h 75 j4)), some (vi x8), some (vi (h 77 j5)), some (vi (x8 + 1))] h6)
  else am_r0 (am_g d 45 [vr 5 74, vr 2 (Int32.toNatClampNeg (h 0 2))] h) fun h7 =>
  rC_early d n 41 [some (vr 6 0), some (vi x1), some (vi x2), some (vi x3), some (vi x4), some (vi x5), some (vi x6), some (vi x7), some (vi (x8 + 1))] h7 := qC_early_41 (am_g d) n x1 x2 x3 x4 x5 x6 x7 x8 h
def rC_ring (d n i : Nat) (ls : am_L) (h : am_H) : am_Z := am_run 0 (fun _ => 0) cC_ring (am_g d) n i ls h
theorem gC_ring (d : Nat) (x1 : Int32) (h : am_H) : am_g (d + 1) 66 [vr 6 0, vi x1] h =
  am_r1 (am_g d 89 [vi x1, vi 3] h) fun h1 v2 =>
  if v2 = 0 then
    (some (h1, some (-1)))
  else rC_ring d 999999 15 [some (vr 6 0), some (vi x1), some (vi 9), some (vi (-4)), some (vi (-4)), some (vi 0), none] h1 := (am_g_run (tb := cC_ring) rfl rfl (Nat.le_of_ble_eq_true rfl) rfl).trans (qC_ring_0 (am_g d) 999999 x1 h)
theorem tC_ring_15 (d n : Nat) (x1 : Int32) (x2 : Int32) (x3 : Int32) (x4 : Int32) (x5 : Int32) (u6 : Option am_V) (h : am_H) : rC_ring d (n + 1) 15 [some (vr 6 0), some (vi x1), some (vi x2), some (vi x3), some (vi x4), some (vi x5), u6] h =
  if x5 < (h (Int32.toNatClampNeg (h 0 2)) 14) then
    (am_r0 (am_g d 44 [vr 5 74, vi x5, vi 0] h) fun h1 =>
    rC_ring d n 28 [some (vr 6 0), some (vi x1), some (vi x2), some (vi x3), some (vi x4), some (vi x5), some (vi 1)] h1)
  else if x3 = (-4) then
    (some (h, some (-4)))
  else if x1 = 0 then
    (some (h, some x2))
  else if x1 = 1 then
    (some (h, some x3))
  else some (h, some x4) := qC_ring_15 (am_g d) n x1 x2 x3 x4 x5 u6 h
theorem tC_ring_28 (d n : Nat) (x1 : Int32) (x2 : Int32) (x3 : Int32) (x4 : Int32) (x5 : Int32) (x6 : Int32) (h : am_H) : rC_ring d (n + 1) 28 [some (vr 6 0), some (vi x1), some (vi x2), some (vi x3), some (vi x4), some (vi x5), some (vi x6)] h =
  if x6 < x2 then
    (am_r0 (am_g d 45 [vr 5 74, vr 2 (Int32.toNatClampNeg (h 0 2))] h) fun h1 =>
    am_b 6 x5 fun j2 =>
    if (h1 75 j2) < 0 then
      (am_b 6 x5 fun j3 =>
      rC_ring d n 28 [some (vr 6 0), some (vi x1), some (vi x6), some (vi x5), some (vi (-(h1 75 j3))), some (vi x5), some (vi (x6 + 1))] h1)
    else rC_ring d n 28 [some (vr 6 0), some (vi x1), some (vi x2), some (vi x3), some (vi x4), some (vi x5), some (vi (x6 + 1))] h1)
  else rC_ring d n 15 [some (vr 6 0), some (vi x1), some (vi x2), some (vi x3), some (vi x4), some (vi (x5 + 1)), some (vi x6)] h := qC_ring_28 (am_g d) n x1 x2 x3 x4 x5 x6 h
def rC_even (d n i : Nat) (ls : am_L) (h : am_H) : am_Z := am_run 0 (fun _ => 0) cC_even (am_g d) n i ls h
theorem gC_even (d : Nat)  (h : am_H) : am_g (d + 1) 67 [vr 6 0] h =
  am_r1 (am_g d 47 [vr 5 74, vr 2 (Int32.toNatClampNeg (h 0 2))] h) fun h1 v2 =>
  if v2 = 0 then
    (some (h1, some 0))
  else some (h1, some 1) := (am_g_run (tb := cC_even) rfl rfl (Nat.le_of_ble_eq_true rfl) rfl).trans (qC_even_0 (am_g d) 999999  h)
def rC_round (d n i : Nat) (ls : am_L) (h : am_H) : am_Z := am_run 0 (fun _ => 0) cC_round (am_g d) n i ls h
theorem gC_round (d : Nat) (x1 : Int32) (x2 : Int32) (x3 : Int32) (h : am_H) : am_g (d + 1) 68 [vr 6 0, vi x1, vi x2, vi x3] h =
  am_r1 (am_g d 93 [vr 6 0, vi x1] h) fun h1 v2 =>
  if v2 = 0 then
    (some (h1, some (-1)))
  else if x2 < 0 then
    (some (h1, some (-1)))
  else if x2 < ((1 : Int32) <<< ((h1 (Int32.toNatClampNeg (h1 0 2)) 14) &&& 31)) then
    (am_r1 (am_g d 89 [vi x3, vi 2] h1) fun h3 v4 =>
    if v4 = 0 then
      (some (h3, some (-1)))
    else am_b 4 x1 fun j5 =>
    am_b 4 x1 fun j6 =>
    am_r0 (am_g d 39 [vr 4 79, vr 2 (Int32.toNatClampNeg (h3 0 2)), vi x2, vi (h3 33 j5), vi (h3 34 j6)] h3) fun h7 =>
    if (h7 79 3) = (-4) then
      (some (h7, some (-4)))
    else if x3 = 0 then
      (am_r1 (am_g d 88 [vi (h7 79 2)] h7) fun h8 v9 =>
      some (h8, some v9))
    else some (h7, some (h7 79 3)))
  else some (h1, some (-1)) := (am_g_run (tb := cC_round) rfl rfl (Nat.le_of_ble_eq_true rfl) rfl).trans (qC_round_0 (am_g d) 999999 x1 x2 x3 h)
def rC_hour (d n i : Nat) (ls : am_L) (h : am_H) : am_Z := am_run 0 (fun _ => 0) cC_hour (am_g d) n i ls h
theorem gC_hour (d : Nat) (x1 : Int32) (x2 : Int32) (x3 : Int32) (h : am_H) : am_g (d + 1) 69 [vr 6 0, vi x1, vi x2, vi x3] h =
  am_r1 (am_g d 93 [vr 6 0, vi x1] h) fun h1 v2 =>
  if v2 = 0 then
    (some (h1, some (-1)))
  else am_r1 (am_g d 89 [vi x2, vi 24] h1) fun h3 v4 =>
  if v4 = 0 then
    (some (h3, some (-1)))
  else am_b 4 x1 fun j5 =>
  am_b 4 x1 fun j6 =>
  if x3 = nI 0 then
    (am_r1 (am_g d 85 [vi (h3 34 j6), vi (x2 * 12), vi 12] h3) fun h7 v8 =>
    am_r1 (am_g d 88 [vi v8] h7) fun h9 v10 =>
    some (h9, some v10))
  else if x3 = nI 1 then
    (am_b 6 (h3 33 j5) fun j11 =>
    am_b 6 (h3 33 j5) fun j12 =>
    am_b 6 (h3 33 j5) fun j13 =>
    am_r1 (am_g d 85 [vi (h3 34 j6), vi ((x2 - (h3 ((Int32.toNatClampNeg (h3 0 2)) + 3) j11)) * (h3 ((Int32.toNatClampNeg (h3 0 2)) + 4) j12)), vi (h3 ((Int32.toNatClampNeg (h3 0 2)) + 4) j13)] h3) fun h14 v15 =>
    am_r1 (am_g d 88 [vi v15] h14) fun h16 v17 =>
    some (h16, some v17))
  else if x3 = nI 2 then
    (am_r1 (am_g d 84 [vr 6 0, vi x1, vi x2] h3) fun h18 v19 =>
    am_r1 (am_g d 88 [vi v19] h18) fun h20 v21 =>
    some (h20, some v21))
  else some (h3, some (-1)) := (am_g_run (tb := cC_hour) rfl rfl (Nat.le_of_ble_eq_true rfl) rfl).trans (qC_hour_0 (am_g d) 999999 x1 x2 x3 h)
def rC_agreed (d n i : Nat) (ls : am_L) (h : am_H) : am_Z := am_run 0 (fun _ => 0) cC_agreed (am_g d) n i ls h
theorem gC_agreed (d : Nat) (x1 : Int32) (x2 : Int32) (x3 : Int32) (h : am_H) : am_g (d + 1) 70 [vr 6 0, vi x1, vi x2, vi x3] h =
  am_r1 (am_g d 93 [vr 6 0, vi x1] h) fun h1 v2 =>
  if v2 = 0 then
    (some (h1, some (-1)))
  else am_r1 (am_g d 93 [vr 6 0, vi x2] h1) fun h3 v4 =>
  if v4 = 0 then
    (some (h3, some (-1)))
  else if x1 = x2 then
    (some (h3, some (-1)))
  else am_r1 (am_g d 89 [vi x3, vi 24] h3) fun h5 v6 =>
  if v6 = 0 then
    (some (h5, some (-1)))
  else am_r1 (am_g d 84 [vr 6 0, vi x2, vi x3] h5) fun h7 v8 =>
  am_b 4 x1 fun j9 =>
  am_b 6 (h7 33 j9) fun j10 =>
  am_b 4 x2 fun j11 =>
  am_b 6 (h7 33 j11) fun j12 =>
  if (24 * (h7 ((Int32.toNatClampNeg (h7 0 2)) + 4) j10)) < 1 then
    (some (h7, some (-4)))
  else if (24 * (h7 ((Int32.toNatClampNeg (h7 0 2)) + 4) j12)) < 1 then
    (some (h7, some (-4)))
  else am_r1 (am_g d 84 [vr 6 0, vi x1, vi x3] h7) fun h13 v14 =>
  rC_agreed d 999999 60 [some (vr 6 0), some (vi x1), some (vi x2), some (vi x3), some (vi v8), some (vi (24 * (h7 ((Int32.toNatClampNeg (h7 0 2)) + 4) j10))), some (vi (24 * (h7 ((Int32.toNatClampNeg (h7 0 2)) + 4) j12))), some (vi v14)] h13 := (am_g_run (tb := cC_agreed) rfl rfl (Nat.le_of_ble_eq_true rfl) rfl).trans (qC_agreed_0 (am_g d) 999999 x1 x2 x3 h)
theorem tC_agreed_60 (d n : Nat) (x1 : Int32) (x2 : Int32) (x3 : Int32) (x4 : Int32) (x5 : Int32) (x6 : Int32) (x7 : Int32) (h : am_H) : rC_agreed d (n + 1) 60 [some (vr 6 0), some (vi x1), some (vi x2), some (vi x3), some (vi x4), some (vi x5), some (vi x6), some (vi x7)] h =
  if 9999 < x7 then
    (some (h, some (-4)))
  else if x7 < x4 then
    (rC_agreed d n 60 [some (vr 6 0), some (vi x1), some (vi x2), some (vi x3), some (vi x4), some (vi x5), some (vi x6), some (vi (x7 + x5))] h)
  else if x6 = 0 then none else
  if (am_rem (x7 - x4) x6) = 0 then
    (am_r1 (am_g d 88 [vi x7] h) fun h1 v2 =>
    some (h1, some v2))
  else rC_agreed d n 60 [some (vr 6 0), some (vi x1), some (vi x2), some (vi x3), some (vi x4), some (vi x5), some (vi x6), some (vi (x7 + x5))] h := qC_agreed_60 (am_g d) n x1 x2 x3 x4 x5 x6 x7 h
def rC_shelf (d n i : Nat) (ls : am_L) (h : am_H) : am_Z := am_run 0 (fun _ => 0) cC_shelf (am_g d) n i ls h
theorem gC_shelf (d : Nat) (x1 : Int32) (x2 : Int32) (h : am_H) : am_g (d + 1) 71 [vr 6 0, vi x1, vi x2] h =
  am_r1 (am_g d 94 [vr 6 0, vi x1] h) fun h1 v2 =>
  if v2 = 0 then
    (some (h1, some (-1)))
  else if x2 < 1 then
    (some (h1, some (-1)))
  else if 99 < x2 then
    (some (h1, some (-1)))
  else rC_shelf d 999999 19 [some (vr 6 0), some (vi x1), some (vi x2), some (vi (-4)), some (vi (-1)), some (vi 0), none, none] h1 := (am_g_run (tb := cC_shelf) rfl rfl (Nat.le_of_ble_eq_true rfl) rfl).trans (qC_shelf_0 (am_g d) 999999 x1 x2 h)
theorem tC_shelf_19 (d n : Nat) (x1 : Int32) (x2 : Int32) (x3 : Int32) (x4 : Int32) (x5 : Int32) (u6 : Option am_V) (u7 : Option am_V) (h : am_H) : rC_shelf d (n + 1) 19 [some (vr 6 0), some (vi x1), some (vi x2), some (vi x3), some (vi x4), some (vi x5), u6, u7] h =
  if x5 < (h (Int32.toNatClampNeg (h 0 2)) 14) then
    (am_b 5 x1 fun j1 =>
    am_b 6 x5 fun j2 =>
    am_r1 (am_g d 33 [vr 2 (Int32.toNatClampNeg (h 0 2)), vi x1, vi ((h 40 j1) + ((x2 * 12) * (h ((Int32.toNatClampNeg (h 0 2)) + 5) j2)))] h) fun h3 v4 =>
    if x4 < v4 then
      (rC_shelf d n 19 [some (vr 6 0), some (vi x1), some (vi x2), some (vi x5), some (vi v4), some (vi (x5 + 1)), some (vi ((h 40 j1) + ((x2 * 12) * (h ((Int32.toNatClampNeg (h 0 2)) + 5) j2)))), some (vi v4)] h3)
    else rC_shelf d n 19 [some (vr 6 0), some (vi x1), some (vi x2), some (vi x3), some (vi x4), some (vi (x5 + 1)), some (vi ((h 40 j1) + ((x2 * 12) * (h ((Int32.toNatClampNeg (h 0 2)) + 5) j2)))), some (vi v4)] h3)
  else some (h, some x3) := qC_shelf_19 (am_g d) n x1 x2 x3 x4 x5 u6 u7 h
def rC_seen (d n i : Nat) (ls : am_L) (h : am_H) : am_Z := am_run 0 (fun _ => 0) cC_seen (am_g d) n i ls h
theorem gC_seen (d : Nat) (x1 : Int32) (x2 : Int32) (x3 : Int32) (h : am_H) : am_g (d + 1) 72 [vr 6 0, vi x1, vi x2, vi x3] h =
  am_r1 (am_g d 91 [vr 6 0, vi x1] h) fun h1 v2 =>
  if v2 = 0 then
    (some (h1, some (-1)))
  else if x2 < 1 then
    (some (h1, some (-1)))
  else if 99 < x2 then
    (some (h1, some (-1)))
  else if x3 < 0 then
    (some (h1, some (-1)))
  else if 400 < x3 then
    (some (h1, some (-1)))
  else am_r1 (am_g d 34 [vr 3 70, vi x1, vi x2, vi x3] h1) fun h3 v4 =>
  if v4 = 0 then
    (some (h3, some (-3)))
  else some (h3, some (h3 70 3)) := (am_g_run (tb := cC_seen) rfl rfl (Nat.le_of_ble_eq_true rfl) rfl).trans (qC_seen_0 (am_g d) 999999 x1 x2 x3 h)
def rC_forget (d n i : Nat) (ls : am_L) (h : am_H) : am_Z := am_run 0 (fun _ => 0) cC_forget (am_g d) n i ls h
theorem gC_forget (d : Nat)  (h : am_H) : am_g (d + 1) 73 [vr 6 0] h =
  some (am_up h 70 3 0, some (h 70 3)) := (am_g_run (tb := cC_forget) rfl rfl (Nat.le_of_ble_eq_true rfl) rfl).trans (qC_forget_0 (am_g d) 999999  h)
def rC_paces (d n i : Nat) (ls : am_L) (h : am_H) : am_Z := am_run 0 (fun _ => 0) cC_paces (am_g d) n i ls h
theorem gC_paces (d : Nat) (x1 : Int32) (h : am_H) : am_g (d + 1) 74 [vr 6 0, vi x1] h =
  am_r1 (am_g d 91 [vr 6 0, vi x1] h) fun h1 v2 =>
  if v2 = 0 then
    (some (h1, some (-1)))
  else am_r1 (am_g d 35 [vr 3 70, vi x1] h1) fun h3 v4 =>
  some (h3, some v4) := (am_g_run (tb := cC_paces) rfl rfl (Nat.le_of_ble_eq_true rfl) rfl).trans (qC_paces_0 (am_g d) 999999 x1 h)
def rC_look (d n i : Nat) (ls : am_L) (h : am_H) : am_Z := am_run 0 (fun _ => 0) cC_look (am_g d) n i ls h
theorem gC_look (d : Nat) (x1 : Int32) (x2 : Int32) (h : am_H) : am_g (d + 1) 75 [vr 6 0, vi x1, vi x2] h =
  am_r1 (am_g d 91 [vr 6 0, vi x1] h) fun h1 v2 =>
  if v2 = 0 then
    (some (h1, some (-1)))
  else am_r1 (am_g d 89 [vi x2, vi 2] h1) fun h3 v4 =>
  if v4 = 0 then
    (some (h3, some (-1)))
  else am_r1 (am_g d 35 [vr 3 70, vi x1] h3) fun h5 v6 =>
  if v6 = 0 then
    (some (h5, some (-4)))
  else rC_look d 999999 26 [some (vr 6 0), some (vi x1), some (vi x2), some (vi v6), some (vi (-4)), some (vi 536870912), some (vi 1), none] h5 := (am_g_run (tb := cC_look) rfl rfl (Nat.le_of_ble_eq_true rfl) rfl).trans (qC_look_0 (am_g d) 999999 x1 x2 h)
theorem tC_look_26 (d n : Nat) (x1 : Int32) (x2 : Int32) (x3 : Int32) (x4 : Int32) (x5 : Int32) (x6 : Int32) (u7 : Option am_V) (h : am_H) : rC_look d (n + 1) 26 [some (vr 6 0), some (vi x1), some (vi x2), some (vi x3), some (vi x4), some (vi x5), some (vi x6), u7] h =
  if 24 < x6 then
    (if x2 = 0 then
      (some (h, some x4))
    else some (h, some x5))
  else am_r1 (am_g d 37 [vr 3 70, vi x3, vi x6] h) fun h1 v2 =>
  if v2 < x5 then
    (rC_look d n 26 [some (vr 6 0), some (vi x1), some (vi x2), some (vi x3), some (vi x6), some (vi v2), some (vi (x6 + 1)), some (vi v2)] h1)
  else rC_look d n 26 [some (vr 6 0), some (vi x1), some (vi x2), some (vi x3), some (vi x4), some (vi x5), some (vi (x6 + 1)), some (vi v2)] h1 := qC_look_26 (am_g d) n x1 x2 x3 x4 x5 x6 u7 h
def rC_mended (d n i : Nat) (ls : am_L) (h : am_H) : am_Z := am_run 0 (fun _ => 0) cC_mended (am_g d) n i ls h
theorem gC_mended (d : Nat) (x1 : Int32) (h : am_H) : am_g (d + 1) 76 [vr 6 0, vi x1] h =
  am_r1 (am_g d 91 [vr 6 0, vi x1] h) fun h1 v2 =>
  if v2 = 0 then
    (some (h1, some (-1)))
  else am_r0 (am_g d 82 [vr 6 0, vr 1 45, vi x1] h1) fun h3 =>
  rC_mended d 999999 16 [some (vr 6 0), some (vi x1), some (vi 0), some (vi 0)] h3 := (am_g_run (tb := cC_mended) rfl rfl (Nat.le_of_ble_eq_true rfl) rfl).trans (qC_mended_0 (am_g d) 999999 x1 h)
theorem tC_mended_16 (d n : Nat) (x1 : Int32) (x2 : Int32) (x3 : Int32) (h : am_H) : rC_mended d (n + 1) 16 [some (vr 6 0), some (vi x1), some (vi x2), some (vi x3)] h =
  if x3 < (h (Int32.toNatClampNeg (h 0 2)) 16) then
    (am_b 4 x3 fun j1 =>
    am_b 4 x3 fun j2 =>
    if (h 47 j1) = (h 34 j2) then
      (rC_mended d n 16 [some (vr 6 0), some (vi x1), some (vi x2), some (vi (x3 + 1))] h)
    else rC_mended d n 16 [some (vr 6 0), some (vi x1), some (vi (x2 ||| ((1 : Int32) <<< (x3 &&& 31)))), some (vi (x3 + 1))] h)
  else some (h, some x2) := qC_mended_16 (am_g d) n x1 x2 x3 h
def rC_day (d n i : Nat) (ls : am_L) (h : am_H) : am_Z := am_run 0 (fun _ => 0) cC_day (am_g d) n i ls h
theorem gC_day (d : Nat) (x1 : Int32) (x2 : Int32) (x3 : Int32) (h : am_H) : am_g (d + 1) 77 [vr 6 0, vi x1, vi x2, vi x3] h =
  am_r1 (am_g d 89 [vi x1, vi 10000] h) fun h1 v2 =>
  if v2 = 0 then
    (some (h1, some (-1)))
  else am_r1 (am_g d 93 [vr 6 0, vi x2] h1) fun h3 v4 =>
  if v4 = 0 then
    (some (h3, some (-1)))
  else am_r1 (am_g d 89 [vi x3, vi 2] h3) fun h5 v6 =>
  if v6 = 0 then
    (some (h5, some (-1)))
  else am_b 4 x2 fun j7 =>
  am_b 4 x2 fun j8 =>
  rC_day d 999999 29 [some (vr 6 0), some (vi x1), some (vi x2), some (vi x3), some (vi (h5 33 j7)), some (vi (h5 34 j8)), some (vi 0), none, none] h5 := (am_g_run (tb := cC_day) rfl rfl (Nat.le_of_ble_eq_true rfl) rfl).trans (qC_day_0 (am_g d) 999999 x1 x2 x3 h)
theorem tC_day_29 (d n : Nat) (x1 : Int32) (x2 : Int32) (x3 : Int32) (x4 : Int32) (x5 : Int32) (x6 : Int32) (u7 : Option am_V) (u8 : Option am_V) (h : am_H) : rC_day d (n + 1) 29 [some (vr 6 0), some (vi x1), some (vi x2), some (vi x3), some (vi x4), some (vi x5), some (vi x6), u7, u8] h =
  if x6 < 12 then
    (am_r1 (am_g d 86 [vi x1, vi x6] h) fun h1 v2 =>
    if (am_rem v2 3) = 0 then
      (am_b 6 x4 fun j3 =>
      rC_day d n 29 [some (vr 6 0), some (vi x1), some (vi x2), some (vi x3), some (vi x4), some (vi (x5 + (((am_rem (v2 / 4) 3) + 1) * (h1 ((Int32.toNatClampNeg (h1 0 2)) + 4) j3)))), some (vi (x6 + 1)), some (vi v2), u8] h1)
    else if 0 < (h1 (Int32.toNatClampNeg (h1 0 2)) 15) then
      (if h1 (Int32.toNatClampNeg (h1 0 2)) 15 = 0 then none else
      am_r1 (am_g d 29 [vr 2 (Int32.toNatClampNeg (h1 0 2)), vi (am_rem (v2 / 8) (h1 (Int32.toNatClampNeg (h1 0 2)) 15)), vi x4] h1) fun h4 v5 =>
      if v5 = 0 then
        (rC_day d n 29 [some (vr 6 0), some (vi x1), some (vi x2), some (vi x3), some (vi x4), some (vi x5), some (vi (x6 + 1)), some (vi v2), some (vi (am_rem (v2 / 8) (h1 (Int32.toNatClampNeg (h1 0 2)) 15)))] h4)
      else am_r1 (am_g d 32 [vr 2 (Int32.toNatClampNeg (h4 0 2)), vi (am_rem (v2 / 8) (h1 (Int32.toNatClampNeg (h1 0 2)) 15)), vi x4] h4) fun h6 v7 =>
      am_r1 (am_g d 30 [vr 2 (Int32.toNatClampNeg (h6 0 2)), vi (am_rem (v2 / 8) (h1 (Int32.toNatClampNeg (h1 0 2)) 15)), vi x4] h6) fun h8 v9 =>
      rC_day d n 29 [some (vr 6 0), some (vi x1), some (vi x2), some (vi x3), some (vi v9), some (vi (x5 + v7)), some (vi (x6 + 1)), some (vi v2), some (vi (am_rem (v2 / 8) (h1 (Int32.toNatClampNeg (h1 0 2)) 15)))] h8)
    else rC_day d n 29 [some (vr 6 0), some (vi x1), some (vi x2), some (vi x3), some (vi x4), some (vi x5), some (vi (x6 + 1)), some (vi v2), u8] h1)
  else if x3 = 0 then
    (am_r1 (am_g d 88 [vi x5] h) fun h10 v11 =>
    some (h10, some v11))
  else some (h, some x4) := qC_day_29 (am_g d) n x1 x2 x3 x4 x5 x6 u7 u8 h
def rC_keep (d n i : Nat) (ls : am_L) (h : am_H) : am_Z := am_run 0 (fun _ => 0) cC_keep (am_g d) n i ls h
theorem gC_keep (d : Nat)  (h : am_H) : am_g (d + 1) 78 [vr 6 0] h =
  if (h 0 9) < 2 then
    (if (h 0 9) = 0 then
      (am_r0 (am_g d 1 [vr 0 62, vr 0 58] h) fun h1 =>
      some (am_up h1 0 9 ((h1 0 9) + 1), some ((h1 0 9) + 1)))
    else am_r0 (am_g d 1 [vr 0 66, vr 0 58] h) fun h2 =>
    some (am_up h2 0 9 ((h2 0 9) + 1), some ((h2 0 9) + 1)))
  else some (h, some (-3)) := (am_g_run (tb := cC_keep) rfl rfl (Nat.le_of_ble_eq_true rfl) rfl).trans (qC_keep_0 (am_g d) 999999  h)
def rC_back (d n i : Nat) (ls : am_L) (h : am_H) : am_Z := am_run 0 (fun _ => 0) cC_back (am_g d) n i ls h
theorem gC_back (d : Nat)  (h : am_H) : am_g (d + 1) 79 [vr 6 0] h =
  if (h 0 9) = 0 then
    (some (h, some (-2)))
  else if ((h 0 9) - 1) = 0 then
    (am_r0 (am_g d 1 [vr 0 58, vr 0 62] (am_up h 0 9 ((h 0 9) - 1))) fun h1 =>
    am_r0 (am_g d 82 [vr 6 0, vr 1 32, vi (-4)] h1) fun h2 =>
    some (h2, some (h2 0 9)))
  else am_r0 (am_g d 1 [vr 0 58, vr 0 66] (am_up h 0 9 ((h 0 9) - 1))) fun h3 =>
  am_r0 (am_g d 82 [vr 6 0, vr 1 32, vi (-4)] h3) fun h4 =>
  some (h4, some (h4 0 9)) := (am_g_run (tb := cC_back) rfl rfl (Nat.le_of_ble_eq_true rfl) rfl).trans (qC_back_0 (am_g d) 999999  h)
def rC_count (d n i : Nat) (ls : am_L) (h : am_H) : am_Z := am_run 0 (fun _ => 0) cC_count (am_g d) n i ls h
theorem gC_count (d : Nat) (x1 : Int32) (h : am_H) : am_g (d + 1) 80 [vr 6 0, vi x1] h =
  if x1 = nI 0 then
    (some (h, some (h (Int32.toNatClampNeg (h 0 2)) 14)))
  else if x1 = nI 1 then
    (some (h, some (h (Int32.toNatClampNeg (h 0 2)) 15)))
  else if x1 = nI 2 then
    (some (h, some (h (Int32.toNatClampNeg (h 0 2)) 16)))
  else if x1 = nI 3 then
    (some (h, some (h (Int32.toNatClampNeg (h 0 2)) 17)))
  else if x1 = nI 4 then
    (some (h, some (h 58 3)))
  else if x1 = nI 5 then
    (some (h, some (h 70 3)))
  else if x1 = nI 6 then
    (some (h, some (h 0 9)))
  else if x1 = nI 7 then
    (some (h, some (h 0 1)))
  else if x1 = nI 8 then
    (some (h, some (h (Int32.toNatClampNeg (h 0 2)) 18)))
  else some (h, some (-1)) := (am_g_run (tb := cC_count) rfl rfl (Nat.le_of_ble_eq_true rfl) rfl).trans (qC_count_0 (am_g d) 999999 x1 h)
def rC_moveIn (d n i : Nat) (ls : am_L) (h : am_H) : am_Z := am_run 0 (fun _ => 0) cC_moveIn (am_g d) n i ls h
theorem gC_moveIn (d : Nat)  (h : am_H) : am_g (d + 1) 81 [vr 6 0] h =
  am_r0 (am_g d 2 [vr 1 32, vr 2 (Int32.toNatClampNeg (nI (Int32.toNatClampNeg (h 0 3)))), vi (-4)] (am_up (am_up (am_up (am_up (am_up h 0 2 (nI (Int32.toNatClampNeg (h 0 3)))) 0 3 (nI (Int32.toNatClampNeg (h 0 2)))) 58 3 0) 70 3 0) 0 9 0)) fun h1 =>
  some (h1, none) := (am_g_run (tb := cC_moveIn) rfl rfl (Nat.le_of_ble_eq_true rfl) rfl).trans (qC_moveIn_0 (am_g d) 999999  h)
def rC_doAgain (d n i : Nat) (ls : am_L) (h : am_H) : am_Z := am_run 0 (fun _ => 0) cC_doAgain (am_g d) n i ls h
theorem gC_doAgain (d : Nat) (a1 : Nat) (x2 : Int32) (h : am_H) : am_g (d + 1) 82 [vr 6 0, vr 1 a1, vi x2] h =
  am_r0 (am_g d 2 [vr 1 a1, vr 2 (Int32.toNatClampNeg (h 0 2)), vi x2] h) fun h1 =>
  rC_doAgain d 999999 8 [some (vr 6 0), some (vr 1 a1), some (vi x2), some (vi 0)] h1 := (am_g_run (tb := cC_doAgain) rfl rfl (Nat.le_of_ble_eq_true rfl) rfl).trans (qC_doAgain_0 (am_g d) 999999 a1 x2 h)
theorem tC_doAgain_8 (d n : Nat) (a1 : Nat) (x2 : Int32) (x3 : Int32) (h : am_H) : rC_doAgain d (n + 1) 8 [some (vr 6 0), some (vr 1 a1), some (vi x2), some (vi x3)] h =
  if x3 < (h 58 3) then
    (am_b 40 x3 fun j1 =>
    am_b 40 x3 fun j2 =>
    am_b 40 x3 fun j3 =>
    am_r0 (am_g d 3 [vr 1 a1, vi (h 59 j1), vi (h 60 j2), vi (h 61 j3)] h) fun h4 =>
    rC_doAgain d n 8 [some (vr 6 0), some (vr 1 a1), some (vi x2), some (vi (x3 + 1))] h4)
  else some (h, none) := qC_doAgain_8 (am_g d) n a1 x2 x3 h
def rC_act (d n i : Nat) (ls : am_L) (h : am_H) : am_Z := am_run 0 (fun _ => 0) cC_act (am_g d) n i ls h
theorem gC_act (d : Nat) (x1 : Int32) (x2 : Int32) (x3 : Int32) (h : am_H) : am_g (d + 1) 83 [vr 6 0, vi x1, vi x2, vi x3] h =
  am_r1 (am_g d 0 [vr 0 58, vi x1, vi x2, vi x3] h) fun h1 v2 =>
  if v2 = 0 then
    (some (h1, some 0))
  else am_r0 (am_g d 3 [vr 1 32, vi x1, vi x2, vi x3] h1) fun h3 =>
  some (h3, some 1) := (am_g_run (tb := cC_act) rfl rfl (Nat.le_of_ble_eq_true rfl) rfl).trans (qC_act_0 (am_g d) 999999 x1 x2 x3 h)
def rC_nextOwnHour (d n i : Nat) (ls : am_L) (h : am_H) : am_Z := am_run 0 (fun _ => 0) cC_nextOwnHour (am_g d) n i ls h
theorem gC_nextOwnHour (d : Nat) (x1 : Int32) (x2 : Int32) (h : am_H) : am_g (d + 1) 84 [vr 6 0, vi x1, vi x2] h =
  am_b 4 x1 fun j1 =>
  am_b 6 (h 33 j1) fun j2 =>
  am_b 4 x1 fun j3 =>
  am_b 4 x1 fun j4 =>
  am_b 4 x1 fun j5 =>
  am_r1 (am_g d 85 [vi (h 34 j3), vi ((h 34 j4) + ((x2 - (h 35 j5)) * (h ((Int32.toNatClampNeg (h 0 2)) + 4) j2))), vi (h ((Int32.toNatClampNeg (h 0 2)) + 4) j2)] h) fun h6 v7 =>
  some (h6, some v7) := (am_g_run (tb := cC_nextOwnHour) rfl rfl (Nat.le_of_ble_eq_true rfl) rfl).trans (qC_nextOwnHour_0 (am_g d) 999999 x1 x2 h)
def rC_nextTick (d n i : Nat) (ls : am_L) (h : am_H) : am_Z := am_run 0 (fun _ => 0) cC_nextTick (am_g d) n i ls h
theorem gC_nextTick (d : Nat) (x0 : Int32) (x1 : Int32) (x2 : Int32) (h : am_H) : am_g (d + 1) 85 [vi x0, vi x1, vi x2] h =
  if (24 * x2) < 1 then
    (some (h, some x0))
  else am_r1 (am_g d 165 [vi (x1 - x0), vi (24 * x2)] h) fun h1 v2 =>
  some (h1, some (x0 + v2)) := (am_g_run (tb := cC_nextTick) rfl rfl (Nat.le_of_ble_eq_true rfl) rfl).trans (qC_nextTick_0 (am_g d) 999999 x0 x1 x2 h)
def rC_drawOf (d n i : Nat) (ls : am_L) (h : am_H) : am_Z := am_run 0 (fun _ => 0) cC_drawOf (am_g d) n i ls h
theorem gC_drawOf (d : Nat) (x0 : Int32) (x1 : Int32) (h : am_H) : am_g (d + 1) 86 [vi x0, vi x1] h =
  if Int32.toInt64 65521 = 0 then none else
  some (h, some (Int64.toInt32 (am_reml (((((Int32.toInt64 7919) * (Int32.toInt64 x0)) + ((Int32.toInt64 6151) * (Int32.toInt64 x1))) + (Int32.toInt64 1)) * ((((Int32.toInt64 7919) * (Int32.toInt64 x0)) + ((Int32.toInt64 6151) * (Int32.toInt64 x1))) + (Int32.toInt64 1))) (Int32.toInt64 65521)))) := (am_g_run (tb := cC_drawOf) rfl rfl (Nat.le_of_ble_eq_true rfl) rfl).trans (qC_drawOf_0 (am_g d) 999999 x0 x1 h)
def rC_commonDivisor (d n i : Nat) (ls : am_L) (h : am_H) : am_Z := am_run 0 (fun _ => 0) cC_commonDivisor (am_g d) n i ls h
theorem gC_commonDivisor (d : Nat) (x0 : Int32) (x1 : Int32) (h : am_H) : am_g (d + 1) 87 [vi x0, vi x1] h =
  rC_commonDivisor d 999999 7 [some (vi x0), some (vi x1), some (vi x0), some (vi x1), some (vi 0), none] h := (am_g_run (tb := cC_commonDivisor) rfl rfl (Nat.le_of_ble_eq_true rfl) rfl).trans (qC_commonDivisor_0 (am_g d) 999999 x0 x1 h)
theorem tC_commonDivisor_7 (d n : Nat) (x0 : Int32) (x1 : Int32) (x2 : Int32) (x3 : Int32) (x4 : Int32) (u5 : Option am_V) (h : am_H) : rC_commonDivisor d (n + 1) 7 [some (vi x0), some (vi x1), some (vi x2), some (vi x3), some (vi x4), u5] h =
  if x4 < 64 then
    (if x3 = 0 then
      (am_r1 (am_g d 166 [vi x2, vi 1] h) fun h1 v2 =>
      some (h1, some v2))
    else if x3 = 0 then none else
    rC_commonDivisor d n 7 [some (vi x0), some (vi x1), some (vi x3), some (vi (am_rem x2 x3)), some (vi (x4 + 1)), some (vi (am_rem x2 x3))] h)
  else am_r1 (am_g d 166 [vi x2, vi 1] h) fun h3 v4 =>
  some (h3, some v4) := qC_commonDivisor_7 (am_g d) n x0 x1 x2 x3 x4 u5 h
def rC_told (d n i : Nat) (ls : am_L) (h : am_H) : am_Z := am_run 0 (fun _ => 0) cC_told (am_g d) n i ls h
theorem gC_told (d : Nat) (x0 : Int32) (h : am_H) : am_g (d + 1) 88 [vi x0] h =
  some (h, some (x0 + 100000)) := (am_g_run (tb := cC_told) rfl rfl (Nat.le_of_ble_eq_true rfl) rfl).trans (qC_told_0 (am_g d) 999999 x0 h)
def rC_isOneOf (d n i : Nat) (ls : am_L) (h : am_H) : am_Z := am_run 0 (fun _ => 0) cC_isOneOf (am_g d) n i ls h
theorem gC_isOneOf (d : Nat) (x0 : Int32) (x1 : Int32) (h : am_H) : am_g (d + 1) 89 [vi x0, vi x1] h =
  if x0 < 0 then
    (some (h, some 0))
  else if x0 < x1 then
    (some (h, some 1))
  else some (h, some 0) := (am_g_run (tb := cC_isOneOf) rfl rfl (Nat.le_of_ble_eq_true rfl) rfl).trans (qC_isOneOf_0 (am_g d) 999999 x0 x1 h)
def rC_isTickToTell (d n i : Nat) (ls : am_L) (h : am_H) : am_Z := am_run 0 (fun _ => 0) cC_isTickToTell (am_g d) n i ls h
theorem gC_isTickToTell (d : Nat) (x0 : Int32) (h : am_H) : am_g (d + 1) 90 [vi x0] h =
  if x0 < (-9999) then
    (some (h, some 0))
  else if 9999 < x0 then
    (some (h, some 0))
  else some (h, some 1) := (am_g_run (tb := cC_isTickToTell) rfl rfl (Nat.le_of_ble_eq_true rfl) rfl).trans (qC_isTickToTell_0 (am_g d) 999999 x0 h)
def rC_isRoom (d n i : Nat) (ls : am_L) (h : am_H) : am_Z := am_run 0 (fun _ => 0) cC_isRoom (am_g d) n i ls h
theorem gC_isRoom (d : Nat) (x1 : Int32) (h : am_H) : am_g (d + 1) 91 [vr 6 0, vi x1] h =
  am_r1 (am_g d 89 [vi x1, vi (h (Int32.toNatClampNeg (h 0 2)) 14)] h) fun h1 v2 =>
  if v2 &&& 1 = v2 then some (h1, some v2) else none := (am_g_run (tb := cC_isRoom) rfl rfl (Nat.le_of_ble_eq_true rfl) rfl).trans (qC_isRoom_0 (am_g d) 999999 x1 h)
def rC_isDoor (d n i : Nat) (ls : am_L) (h : am_H) : am_Z := am_run 0 (fun _ => 0) cC_isDoor (am_g d) n i ls h
theorem gC_isDoor (d : Nat) (x1 : Int32) (h : am_H) : am_g (d + 1) 92 [vr 6 0, vi x1] h =
  am_r1 (am_g d 89 [vi x1, vi (h (Int32.toNatClampNeg (h 0 2)) 15)] h) fun h1 v2 =>
  if v2 &&& 1 = v2 then some (h1, some v2) else none := (am_g_run (tb := cC_isDoor) rfl rfl (Nat.le_of_ble_eq_true rfl) rfl).trans (qC_isDoor_0 (am_g d) 999999 x1 h)
def rC_isPerson (d n i : Nat) (ls : am_L) (h : am_H) : am_Z := am_run 0 (fun _ => 0) cC_isPerson (am_g d) n i ls h
theorem gC_isPerson (d : Nat) (x1 : Int32) (h : am_H) : am_g (d + 1) 93 [vr 6 0, vi x1] h =
  am_r1 (am_g d 89 [vi x1, vi (h (Int32.toNatClampNeg (h 0 2)) 16)] h) fun h1 v2 =>
  if v2 &&& 1 = v2 then some (h1, some v2) else none := (am_g_run (tb := cC_isPerson) rfl rfl (Nat.le_of_ble_eq_true rfl) rfl).trans (qC_isPerson_0 (am_g d) 999999 x1 h)
def rC_isThing (d n i : Nat) (ls : am_L) (h : am_H) : am_Z := am_run 0 (fun _ => 0) cC_isThing (am_g d) n i ls h
theorem gC_isThing (d : Nat) (x1 : Int32) (h : am_H) : am_g (d + 1) 94 [vr 6 0, vi x1] h =
  am_r1 (am_g d 89 [vi x1, vi (h (Int32.toNatClampNeg (h 0 2)) 17)] h) fun h1 v2 =>
  if v2 &&& 1 = v2 then some (h1, some v2) else none := (am_g_run (tb := cC_isThing) rfl rfl (Nat.le_of_ble_eq_true rfl) rfl).trans (qC_isThing_0 (am_g d) 999999 x1 h)
def rJ_bitCount (d n i : Nat) (ls : am_L) (h : am_H) : am_Z := am_run 0 (fun _ => 0) cJ_bitCount (am_g d) n i ls h
theorem gJ_bitCount (d : Nat) (x0 : Int32) (h : am_H) : am_g (d + 1) 164 [vi x0] h =
  some (h, some ((((((((x0 - ((am_ush x0 1) &&& 1431655765)) &&& 858993459) + ((am_ush (x0 - ((am_ush x0 1) &&& 1431655765)) 2) &&& 858993459)) + (am_ush (((x0 - ((am_ush x0 1) &&& 1431655765)) &&& 858993459) + ((am_ush (x0 - ((am_ush x0 1) &&& 1431655765)) 2) &&& 858993459)) 4)) &&& 252645135) + (am_ush (((((x0 - ((am_ush x0 1) &&& 1431655765)) &&& 858993459) + ((am_ush (x0 - ((am_ush x0 1) &&& 1431655765)) 2) &&& 858993459)) + (am_ush (((x0 - ((am_ush x0 1) &&& 1431655765)) &&& 858993459) + ((am_ush (x0 - ((am_ush x0 1) &&& 1431655765)) 2) &&& 858993459)) 4)) &&& 252645135) 8)) + (am_ush ((((((x0 - ((am_ush x0 1) &&& 1431655765)) &&& 858993459) + ((am_ush (x0 - ((am_ush x0 1) &&& 1431655765)) 2) &&& 858993459)) + (am_ush (((x0 - ((am_ush x0 1) &&& 1431655765)) &&& 858993459) + ((am_ush (x0 - ((am_ush x0 1) &&& 1431655765)) 2) &&& 858993459)) 4)) &&& 252645135) + (am_ush (((((x0 - ((am_ush x0 1) &&& 1431655765)) &&& 858993459) + ((am_ush (x0 - ((am_ush x0 1) &&& 1431655765)) 2) &&& 858993459)) + (am_ush (((x0 - ((am_ush x0 1) &&& 1431655765)) &&& 858993459) + ((am_ush (x0 - ((am_ush x0 1) &&& 1431655765)) 2) &&& 858993459)) 4)) &&& 252645135) 8)) 16)) &&& 63)) := (am_g_run (tb := cJ_bitCount) rfl rfl (Nat.le_of_ble_eq_true rfl) rfl).trans (qJ_bitCount_0 (am_g d) 999999 x0 h)
def rJ_floorMod (d n i : Nat) (ls : am_L) (h : am_H) : am_Z := am_run 0 (fun _ => 0) cJ_floorMod (am_g d) n i ls h
theorem gJ_floorMod (d : Nat) (x0 : Int32) (x1 : Int32) (h : am_H) : am_g (d + 1) 165 [vi x0, vi x1] h =
  if x1 = 0 then none else
  if (x0 ^^^ x1) < 0 then
    (if (am_rem x0 x1) = 0 then
      (some (h, some (am_rem x0 x1)))
    else some (h, some ((am_rem x0 x1) + x1)))
  else some (h, some (am_rem x0 x1)) := (am_g_run (tb := cJ_floorMod) rfl rfl (Nat.le_of_ble_eq_true rfl) rfl).trans (qJ_floorMod_0 (am_g d) 999999 x0 x1 h)
def rJ_max (d n i : Nat) (ls : am_L) (h : am_H) : am_Z := am_run 0 (fun _ => 0) cJ_max (am_g d) n i ls h
theorem gJ_max (d : Nat) (x0 : Int32) (x1 : Int32) (h : am_H) : am_g (d + 1) 166 [vi x0, vi x1] h =
  if x0 < x1 then
    (some (h, some x1))
  else some (h, some x0) := (am_g_run (tb := cJ_max) rfl rfl (Nat.le_of_ble_eq_true rfl) rfl).trans (qJ_max_0 (am_g d) 999999 x0 x1 h)
def rJ_min (d n i : Nat) (ls : am_L) (h : am_H) : am_Z := am_run 0 (fun _ => 0) cJ_min (am_g d) n i ls h
theorem gJ_min (d : Nat) (x0 : Int32) (x1 : Int32) (h : am_H) : am_g (d + 1) 167 [vi x0, vi x1] h =
  if x1 < x0 then
    (some (h, some x1))
  else some (h, some x0) := (am_g_run (tb := cJ_min) rfl rfl (Nat.le_of_ble_eq_true rfl) rfl).trans (qJ_min_0 (am_g d) 999999 x0 x1 h)
def rJ_fill (d n i : Nat) (ls : am_L) (h : am_H) : am_Z := am_run 0 (fun _ => 0) cJ_fill (am_g d) n i ls h
theorem gJ_fill6 (d : Nat) (a0 : Nat) (x1 : Int32) (h : am_H) : am_g (d + 1) 168 [vr 106 a0, vi x1] h =
  rJ_fill d 999999 6 [some (vr 106 a0), some (vi x1), some (vi 0), some (vi (nI 6))] h := (am_g_run (tb := cJ_fill) rfl rfl (Nat.le_of_ble_eq_true rfl) rfl).trans (qJ_fill6_0 (am_g d) 999999 a0 x1 h)
theorem tJ_fill6_6 (d n : Nat) (a0 : Nat) (x1 : Int32) (x2 : Int32) (x3 : Int32) (h : am_H) : rJ_fill d (n + 1) 6 [some (vr 106 a0), some (vi x1), some (vi x2), some (vi x3)] h =
  if x2 < x3 then
    (am_b 6 x2 fun j1 =>
    rJ_fill d n 6 [some (vr 106 a0), some (vi x1), some (vi (x2 + 1)), some (vi x3)] (am_up h a0 j1 x1))
  else some (h, none) := qJ_fill6_6 (am_g d) n a0 x1 x2 x3 h
theorem gJ_fill384 (d : Nat) (a0 : Nat) (x1 : Int32) (h : am_H) : am_g (d + 1) 168 [vr 484 a0, vi x1] h =
  rJ_fill d 999999 6 [some (vr 484 a0), some (vi x1), some (vi 0), some (vi (nI 384))] h := (am_g_run (tb := cJ_fill) rfl rfl (Nat.le_of_ble_eq_true rfl) rfl).trans (qJ_fill384_0 (am_g d) 999999 a0 x1 h)
theorem tJ_fill384_6 (d n : Nat) (a0 : Nat) (x1 : Int32) (x2 : Int32) (x3 : Int32) (h : am_H) : rJ_fill d (n + 1) 6 [some (vr 484 a0), some (vi x1), some (vi x2), some (vi x3)] h =
  if x2 < x3 then
    (am_b 384 x2 fun j1 =>
    rJ_fill d n 6 [some (vr 484 a0), some (vi x1), some (vi (x2 + 1)), some (vi x3)] (am_up h a0 j1 x1))
  else some (h, none) := qJ_fill384_6 (am_g d) n a0 x1 x2 x3 h
