/-! HOURS -/
theorem own_eq {z : Int32} {k : Nat} (h1 : -5000 ≤ z.toInt) (h2 : z.toInt ≤ 5000) (hk1 : 3 ≤ k) (hk2 : k ≤ 48) : fm (z * nI k) (24 * k) = fm z 24 * nI k ∧ fm (fm z 24 * nI k) (24 * k) = fm z 24 * nI k := by
  have hkI : (nI k).toInt = (k : Int) := nI_toInt (by omega)
  have e1 := Int.emod_nonneg z.toInt (show ((24 : Nat) : Int) ≠ 0 by omega)
  have e2 := Int.emod_lt_of_pos z.toInt (show (0 : Int) < ((24 : Nat) : Int) by omega)
  have hf : (fm z 24).toInt = z.toInt % ((24 : Nat) : Int) := by
    unfold fm
    rw [ti_of (by omega) (by omega)]
  have hb1 : -240000 ≤ z.toInt * k ∧ z.toInt * k ≤ 240000 := by
    have : (z.toInt * k).natAbs ≤ 5000 * 48 := by
      rw [Int.natAbs_mul]
      exact Nat.mul_le_mul (by omega) (by simp; omega)
    omega
  have hb2 : 0 ≤ (z.toInt % ((24 : Nat) : Int)) * k ∧ (z.toInt % ((24 : Nat) : Int)) * k ≤ 2000 := by
    refine ⟨Int.mul_nonneg e1 (by omega), ?_⟩
    have : ((z.toInt % ((24 : Nat) : Int)) * k).natAbs ≤ 24 * 48 := by
      rw [Int.natAbs_mul]
      exact Nat.mul_le_mul (by omega) (by simp; omega)
    omega
  have hm1 : (z * nI k).toInt = z.toInt * k := by
    rw [ti_mul] <;> rw [hkI] <;> omega
  have hm2 : (fm z 24 * nI k).toInt = (z.toInt % ((24 : Nat) : Int)) * k := by
    rw [ti_mul] <;> rw [hkI, hf] <;> omega
  have hc : ((24 * k : Nat) : Int) = ((24 : Nat) : Int) * (k : Int) := by push_cast; rfl
  have hq : (z.toInt * k) % ((24 * k : Nat) : Int) = (z.toInt % ((24 : Nat) : Int)) * k := by
    rw [hc, Int.mul_comm z.toInt, Int.mul_comm ((24 : Nat) : Int), Int.mul_emod_mul_of_pos _ _ (by omega), Int.mul_comm]
  have hq2 : ((z.toInt % ((24 : Nat) : Int)) * k) % ((24 * k : Nat) : Int) = (z.toInt % ((24 : Nat) : Int)) * k := by
    rw [hc, Int.mul_comm (z.toInt % _), Int.mul_comm ((24 : Nat) : Int), Int.mul_emod_mul_of_pos _ _ (by omega), Int.emod_emod_of_dvd _ (Int.dvd_refl _), Int.mul_comm]
  refine ⟨?_, ?_⟩
  · apply Int32.toInt.inj
    rw [hm2]
    unfold fm
    rw [hm1, hq, ti_of (by omega) (by omega)]
  · apply Int32.toInt.inj
    rw [hm2]
    conv => lhs; unfold fm
    have : (Int32.ofInt (z.toInt % ((24 : Nat) : Int)) * nI k).toInt = (z.toInt % ((24 : Nat) : Int)) * k := hm2
    rw [this, hq2, ti_of (by omega) (by omega)]
theorem add_sub (a b : Int32) : a + b - a = b := by
  rw [Int32.add_comm, Int32.add_sub_cancel]
theorem nextTick_ok (d : Nat) (a b : Int32) {k : Nat} (hk1 : 3 ≤ k) (hk2 : k ≤ 48) (h : am_H) : am_g (d + 2) 85 [vi a, vi b, vi (nI k)] h = some (h, some (a + fm (b - a) (24 * k))) := by
  have e : (24 : Int32) * nI k = nI (24 * k) := by rw [show (24 : Int32) = nI 24 from rfl, pk_mul]
  have hlt : ¬ nI (24 * k) < 1 := nI_nlt (b := 1) (by omega) (by omega)
  rw [gC_nextTick, e, if_neg hlt, floorMod_ok d _ (by omega) (by omega), r1_ok]
/-- the hour of one's own -/
def own (S : am_H) (K : K_T) (i : Nat) (x : Int32) : Int32 := K.1 1 i + fm (x - K.1 2 i) 24 * hOf S (rmOf K i)
section HOUR
variable {h S : am_H} {o o' : Nat} {tx : List Nat} {as : List K_A} {ks : List (List K_A)} {ss : List K_A}
theorem own_b (v : VI S tx as ks ss) (hv : VH S) {i n : Nat} (hi : i < nP S) (hn : n ≤ 23) : -5000 ≤ (nI n - (kAll S as).1 2 i).toInt ∧ (nI n - (kAll S as).1 2 i).toInt ≤ 5000 := by
  have hK := v.vk hv
  have hal := v.2.1.1
  obtain ⟨-, -, ⟨a1, a2⟩, -⟩ := hK.1 i hi
  have hn' : (nI n).toInt = n := nI_toInt (by omega)
  rw [ti_sub] <;> rw [hn'] <;> omega
theorem gC_nextOwnHour_ok (d : Nat) (c : CI h S o o' tx as ks ss) (v : VI S tx as ks ss) (hv : VH S) {i n : Nat} (hi : i < nP S) (hn : n ≤ 23) : am_g (d + 3) 84 [vr 6 0, vi (nI i), vi (nI n)] h = some (h, some (own S (kAll S as) i (nI n))) := by
  have hP := hv.2.2.1.2.2
  have hR := hv.1.2.2
  have hK := v.vk hv
  obtain ⟨⟨r, hr, hrr⟩, -⟩ := hK.1 i hi
  obtain ⟨k, hk1, hk2, hk⟩ := hOf_nI hv hr
  obtain ⟨b1, b2, b3, -⟩ := c.rc.1 i hi
  have hrm : rmOf (kAll S as) i = r := by unfold rmOf; rw [hrr, nI_rm (by omega)]
  obtain ⟨w1, w2⟩ := own_b v hv hi hn
  rw [gC_nextOwnHour, b_ok (by omega) (by omega), b1, hrr, b_ok (by omega) (by omega), b_ok (by omega) (by omega), b_ok (by omega) (by omega), b_ok (by omega) (by omega), c.oo, (c.rh.2.1 r hr).2.2.2.1, b2, b3, hk, nextTick_ok d _ _ hk1 hk2, r1_ok, add_sub, (own_eq w1 w2 hk1 hk2).1]
  unfold own
  rw [hrm, hk]
end HOUR
theorem P_hour (x y z : Int32) : Pr 69 149 [vi x, vi y, vi z] := by
  refine Pr_q fun h S o o' tx as ks ss c m v => ?_
  have hv := m.1
  have hP := hv.2.2.1.2.2
  have hR := hv.1.2.2
  have hK := v.vk hv
  have q1 : (¬ y < 0 ∧ y < 24) ↔ (¬ y < 0 ∧ ¬ 23 < y) := lt_in (n := 24) (by omega) (by omega)
  rw [gC_hour, gM_hour, gC_isPerson_ok 4 hv c, gM_isPerson_ok 4 hv, r1_ok, r1_ok]
  rcases ix_c (x := x) (n := nP S) (by omega) with hx | ⟨i, hi, rfl⟩
  · rw [if_pos (ix_no hx), if_pos (ix_no hx)]
    exact ⟨_, rfl, rfl⟩
  · rw [if_neg (ix_yes hi (by omega)), if_neg (ix_yes hi (by omega)), gC_isOneOf_ok, gM_in_ok, r1_ok, r1_ok, yn_congr q1]
    by_cases hy : ¬ y < 0 ∧ ¬ 23 < y
    · rw [if_neg (fun q => yn_0.mp q hy), if_neg (fun q => yn_0.mp q hy), gM_in_ok, r1_ok]
      obtain ⟨n, hn, rfl⟩ := (in_c (n := 23) (by omega)).mp hy
      obtain ⟨⟨r, hr, hrr⟩, -⟩ := hK.1 i hi
      obtain ⟨k, hk1, hk2, hk⟩ := hOf_nI hv hr
      obtain ⟨b1, b2, b3, -⟩ := c.rc.1 i hi
      obtain ⟨a0, a1, a2, -⟩ := m.2.2.1.1 i hi
      have hrm : rmOf (kAll S as) i = r := by unfold rmOf; rw [hrr, nI_rm (by omega)]
      obtain ⟨w1, w2⟩ := own_b v hv hi hn
      by_cases hz : ¬ z < 0 ∧ ¬ 2 < z
      · rw [if_neg (fun q => yn_0.mp q hz)]
        obtain ⟨j, hj, rfl⟩ := (in_c (n := 2) (by omega)).mp hz
        have e12 : (24 : Int32) * 12 = nI (24 * 12) := rfl
        have e24k : (24 : Int32) * nI k = nI (24 * k) := by rw [show (24 : Int32) = nI 24 from rfl, pk_mul]
        have : j = 0 ∨ j = 1 ∨ j = 2 := by omega
        rw [b_ok (by omega) (by omega), b_ok (by omega) (by omega)]
        rcases this with rfl | rfl | rfl
        · rw [if_pos rfl, if_pos (show nI 0 = 0 from rfl), if_pos (show nI 0 = 0 from rfl)]
          simp (disch := omega) only [b_ok]
          have hn12 := nextTick_ok 4 (h 34 i) (nI n * 12) (k := 12) (by omega) (by omega) h
          rw [show nI 12 = (12 : Int32) from rfl] at hn12
          rw [hn12, r1_ok, gC_told, r1_ok, e12, modulo_ok 5 _ (by omega) (by omega), r1_ok, b2, a1, Int32.mul_comm (nI n) 12]
          exact ⟨_, rfl, rfl⟩
        · rw [if_neg (show ¬ nI 1 = nI 0 by decide), if_pos rfl, if_neg (show ¬ nI 1 = 0 by decide), b_ok (by omega) (by omega), a0, hrr, gM_hourOf_ok 5 hv hr, r1_ok, if_neg (show ¬ nI 1 = 0 by decide), if_pos (show nI 1 = 1 from rfl)]
          simp (disch := omega) only [b_ok]
          rw [b1, a0, hrr]
          simp (disch := omega) only [b_ok]
          rw [c.oo, (c.rh.2.1 r hr).2.2.2.1, (c.rh.2.1 r hr).2.2.1, hk, nextTick_ok 4 _ _ hk1 hk2, r1_ok, gC_told, r1_ok, e24k, modulo_ok 5 _ (by omega) (by omega), r1_ok, b2, a1]
          exact ⟨_, rfl, rfl⟩
        · rw [if_neg (show ¬ nI 2 = nI 0 by decide), if_neg (show ¬ nI 2 = nI 1 by decide), if_pos rfl, if_neg (show ¬ nI 2 = 0 by decide), b_ok (by omega) (by omega), a0, hrr, gM_hourOf_ok 5 hv hr, r1_ok, if_neg (show ¬ nI 2 = 0 by decide), if_neg (show ¬ nI 2 = 1 by decide)]
          simp (disch := omega) only [b_ok]
          have h24 := modulo_ok 5 (nI n - (kAll S as).1 2 i) (b := 24) (by omega) (by omega) S
          rw [show nI 24 = (24 : Int32) from rfl] at h24
          rw [gC_nextOwnHour_ok 3 c v hv hi hn, r1_ok, gC_told, r1_ok, a2, h24, r1_ok]
          rw [a1, hk, e24k, add_sub, modulo_ok 5 _ (by omega) (by omega), r1_ok, (own_eq w1 w2 hk1 hk2).2]
          unfold own
          rw [hrm, hk]
          exact ⟨_, rfl, rfl⟩
      · rw [if_pos (yn_0.mpr hz)]
        have hne : ∀ j, j ≤ 2 → ¬ z = nI j := fun j hj q => hz ((in_c (n := 2) (by omega)).mpr ⟨j, hj, q⟩)
        rw [b_ok (by omega) (by omega), b_ok (by omega) (by omega), if_neg (hne 0 (by omega)), if_neg (hne 1 (by omega)), if_neg (hne 2 (by omega))]
        exact ⟨_, rfl, rfl⟩
    · rw [if_pos (yn_0.mpr hy), if_pos (yn_0.mpr hy)]
      exact ⟨_, rfl, rfl⟩
