/-! A DAY by draws -/
def cst (S : am_H) (e r : Nat) : Int32 := S 99 0 * hOf S r + 12 * led S e (nI r)
theorem gM_costOf_ok (d : Nat) {S : am_H} (hv : VH S) {e r : Nat} (he : e < nD S) (hr : r < nR S) : am_g (d + 2) 142 [vr 7 82, vi (nI e), vi (nI r)] S = some (S, some (cst S e r)) := by
  rw [gM_costOf, gM_hourOf_ok d hv hr, r1_ok, gM_leadFrom_ok d hv he, r1_ok]
  rfl
theorem gH_ticks_ok (d : Nat) {o : Nat} {h S : am_H} (hv : VH S) (rh : RH o h S) {e r : Nat} (he : e < nD S) (hr : r < nR S) : am_g (d + 2) 32 [vr 2 o, vi (nI e), vi (nI r)] h = some (h, some (cst S e r)) := by
  have hR := hv.1.2.2
  rw [gH_ticksThrough, b_ok (by omega) (by omega), gH_leadTicks_ok d rh.2.2.1 hv.2.1.2 he, r1_ok, rh.1.2.2.2.2, (rh.2.1 r hr).2.2.2.1]
  rfl
def drw (z k : Nat) : Nat := ((7919 * z + 6151 * k + 1) * (7919 * z + 6151 * k + 1)) % 65521
theorem tl {n : Nat} (h : n < 2 ^ 31) : Int32.toInt64 (nI n) = lN n := nI_l h
theorem drw_ok {z k : Nat} (hz : z < 10000) (hk : k < 12) : Int64.toInt32 (am_reml (((((Int32.toInt64 7919) * (Int32.toInt64 (nI z))) + ((Int32.toInt64 6151) * (Int32.toInt64 (nI k)))) + (Int32.toInt64 1)) * ((((Int32.toInt64 7919) * (Int32.toInt64 (nI z))) + ((Int32.toInt64 6151) * (Int32.toInt64 (nI k)))) + (Int32.toInt64 1))) (Int32.toInt64 65521)) = nI (drw z k) := by
  rw [show (7919 : Int32) = nI 7919 from rfl, show (6151 : Int32) = nI 6151 from rfl, show (65521 : Int32) = nI 65521 from rfl, show (1 : Int32) = nI 1 from rfl, tl (by omega), tl (by omega), tl (by omega), tl (by omega), tl (by omega), tl (by omega), lN_mul, lN_mul, lN_add, lN_add, lN_mul]
  have hb : 7919 * z + 6151 * k + 1 < 2 ^ 27 := by omega
  have hb2 : (7919 * z + 6151 * k + 1) * (7919 * z + 6151 * k + 1) < 2 ^ 54 := by
    calc (7919 * z + 6151 * k + 1) * (7919 * z + 6151 * k + 1) < 2 ^ 27 * 2 ^ 27 := Nat.mul_lt_mul'' hb hb
      _ = 2 ^ 54 := by decide
  unfold am_reml
  rw [pk_lRem (by omega) (by omega) (by omega), lN_i]
  rfl
theorem n65521 : ¬ Int32.toInt64 65521 = 0 := by
  rw [show (65521 : Int32) = nI 65521 from rfl, tl (by omega)]
  intro q
  have := congrArg Int64.toInt q
  rw [lN_toInt (by omega)] at this
  have z : ((0 : Int64)).toInt = 0 := rfl
  omega
section DAY
variable {h S : am_H} {o o' : Nat} {tx : List Nat} {as : List K_A} {ks : List (List K_A)} {ss : List K_A}
theorem day_loop (c : CI h S o o' tx as ks ss) (m : MI S tx as ks ss) {z : Nat} (hz : z < 10000) (i w : Int32) : ∀ (q n n' k r : Nat) (x5 : Int32) (u7 u8 v7 v8 v9 v10 : Option am_V), k + q = 12 → q < n → 2 * q < n' → r < nR S →
    ∃ v, rC_day 6 n 29 [some (vr 6 0), some (vi (nI z)), some (vi i), some (vi w), some (vi (nI r)), some (vi x5), some (vi (nI k)), u7, u8] h = some (h, some v) ∧ rM_day 6 n' 31 [some (vr 7 82), some (vi (nI z)), some (vi i), some (vi w), some (vi (nI r)), some (vi x5), some (vi (nI k)), v7, v8, v9, v10] S = some (S, some v) := by
  have hv := m.1
  have hR := hv.1
  have hD := hv.2.1
  intro q
  induction q with
  | zero =>
    intro n n' k r x5 u7 u8 v7 v8 v9 v10 hk hn hn' hr
    obtain ⟨n, rfl⟩ : ∃ p, n = p + 1 := ⟨n - 1, by omega⟩
    obtain ⟨n', rfl⟩ : ∃ p, n' = p + 1 := ⟨n' - 1, by omega⟩
    have hlt : ¬ nI k < 12 := nI_nlt (b := 12) (by omega) (by omega)
    rw [tC_day_29, tM_day_31, if_neg hlt, if_neg hlt, gC_told, r1_ok]
    by_cases e : w = 0
    · rw [if_pos e, if_pos e]; exact ⟨_, rfl, rfl⟩
    · rw [if_neg e, if_neg e]; exact ⟨_, rfl, rfl⟩
  | succ q ih =>
    intro n n' k r x5 u7 u8 v7 v8 v9 v10 hk hn hn' hr
    obtain ⟨n, rfl⟩ : ∃ p, n = p + 1 := ⟨n - 1, by omega⟩
    obtain ⟨n', rfl⟩ : ∃ p, n' = p + 1 + 1 := ⟨n' - 2, by omega⟩
    have hlt : nI k < 12 := nI_lt (b := 12) (by omega) (by omega)
    have hdr : drw z k < 65521 := Nat.mod_lt _ (by omega)
    rw [tC_day_29, tM_day_31, if_pos hlt, if_pos hlt, gC_drawOf, if_neg n65521, if_neg n65521, drw_ok hz (by omega), r1_ok, tM_day_54, c.oo, nI_1]
    by_cases e1 : am_rem (nI (drw z k)) 3 = 0
    · rw [if_pos e1, if_pos e1, b_ok (by omega) (by omega), (c.rh.2.1 r hr).2.2.2.1, gM_hourOf_ok 5 hv hr, r1_ok]
      exact ih n n' (k + 1) r _ _ _ _ _ _ _ (by omega) (by omega) (by omega) hr
    · rw [if_neg e1, if_neg e1, c.rh.1.2.1, hD.1]
      by_cases e2 : 0 < nD S
      · have hp : (0 : Int32) < nI (nD S) := by rw [← nI_0]; exact nI_lt e2 (by omega)
        have hne : ¬ nI (nD S) = 0 := nI_ne0 e2 (by omega)
        have hx : am_rem (nI (drw z k) / 8) (nI (nD S)) = nI (drw z k / 8 % nD S) := by
          rw [show (8 : Int32) = nI 8 from rfl, pk_div (by omega) (by omega) (by omega), rem_nI (by omega) e2 (by omega)]
        have hxl : drw z k / 8 % nD S < nD S := Nat.mod_lt _ e2
        rw [if_pos hp, if_pos hp, if_neg hne, if_neg hne, hx, gH_isDoorOf_ok 5 c.rh.2.2.1 hD.2 hxl, gM_isBeside_ok 5 hv hxl, r1_ok, r1_ok]
        by_cases e3 : bes S (drw z k / 8 % nD S) (nI r)
        · obtain ⟨b, hb, hbb⟩ := byd_b hv hxl (nI r)
          rw [if_neg (fun q => yn_0.mp q e3), if_neg (fun q => yn_0.mp q e3), hD.1, if_neg hne, hx, c.oo, gH_ticks_ok 4 hv c.rh hxl hr, r1_ok, c.oo, gH_behind_ok 5 c.rh.2.2.1 hD.2 hxl, r1_ok, gM_costOf_ok 4 hv hxl hr, r1_ok, gM_beyond_ok 5 hv hxl, r1_ok, hbb]
          exact ih n n' (k + 1) b _ _ _ _ _ _ _ (by omega) (by omega) (by omega) hb
        · rw [if_pos (yn_0.mpr e3), if_pos (yn_0.mpr e3)]
          exact ih n n' (k + 1) r _ _ _ _ _ _ _ (by omega) (by omega) (by omega) hr
      · have e0 : nD S = 0 := by omega
        have hp : ¬ (0 : Int32) < nI (nD S) := by rw [e0]; decide
        rw [if_neg hp, if_neg hp]
        exact ih n n' (k + 1) r _ _ _ _ _ _ _ (by omega) (by omega) (by omega) hr
end DAY
theorem lt_in {x : Int32} {n : Nat} (hn : 0 < n) (hn2 : n < 2 ^ 30) : (¬ x < 0 ∧ x < nI n) ↔ (¬ x < 0 ∧ ¬ nI (n - 1) < x) := by
  rw [← in_m hn2, nI_sub1 (by omega)]
theorem P_day (x y z : Int32) : Pr 77 159 [vi x, vi y, vi z] := by
  refine Pr_q fun h S o o' tx as ks ss c m v => ?_
  have hv := m.1
  have hP := hv.2.2.1.2.2
  have hK := v.vk hv
  have q1 : (¬ x < 0 ∧ x < 10000) ↔ (¬ x < 0 ∧ ¬ 9999 < x) := lt_in (n := 10000) (by omega) (by omega)
  have q2 : (¬ z < 0 ∧ z < 2) ↔ (¬ z < 0 ∧ ¬ 1 < z) := lt_in (n := 2) (by omega) (by omega)
  rw [gC_day, gM_day, gC_isOneOf_ok, gM_in_ok, r1_ok, r1_ok, yn_congr q1]
  by_cases hx : ¬ x < 0 ∧ ¬ 9999 < x
  · rw [if_neg (fun q => yn_0.mp q hx), if_neg (fun q => yn_0.mp q hx), gC_isPerson_ok 4 hv c, gM_isPerson_ok 4 hv, r1_ok, r1_ok]
    rcases ix_c (x := y) (n := nP S) (by omega) with hy | ⟨i, hi, rfl⟩
    · rw [if_pos (ix_no hy), if_pos (ix_no hy)]
      exact ⟨_, rfl, rfl⟩
    · rw [if_neg (ix_yes hi (by omega)), if_neg (ix_yes hi (by omega)), gC_isOneOf_ok, gM_in_ok, r1_ok, r1_ok, yn_congr q2]
      by_cases hz : ¬ z < 0 ∧ ¬ 1 < z
      · rw [if_neg (fun q => yn_0.mp q hz), if_neg (fun q => yn_0.mp q hz), b_ok (by omega) (by omega), b_ok (by omega) (by omega), b_ok (by omega) (by omega), b_ok (by omega) (by omega), (c.rc.1 i hi).1, (c.rc.1 i hi).2.1, (m.2.2.1.1 i hi).1, (m.2.2.1.1 i hi).2.1]
        obtain ⟨⟨r, hr, hrr⟩, -⟩ := hK.1 i hi
        obtain ⟨n, hn, rfl⟩ := (in_c (n := 9999) (by omega)).mp hx
        rw [hrr, ← nI_0]
        exact day_loop c m (by omega) _ _ 12 999999 999999 0 r _ _ _ _ _ _ _ (by omega) (by omega) (by omega) hr
      · rw [if_pos (yn_0.mpr hz), if_pos (yn_0.mpr hz)]
        exact ⟨_, rfl, rfl⟩
  · rw [if_pos (yn_0.mpr hx), if_pos (yn_0.mpr hx)]
    exact ⟨_, rfl, rfl⟩
